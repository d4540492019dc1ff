/** Terms: MEANING of SELECT. */
final class SelectSentences extends Sentences {
    @Override
    void all() {
        firstCase();
        closedCase();
        alternative();
        waits();
        served();
        closedWhileWaiting();
    }

    private static final String[] CAN = {"CASERECV v3 #1 v4;", "CASESEND #2 #7;", "CASERECV v3 #3 v4;"};
    private static final String[] CANNOT = {"CASERECV v3 #2 v4;", "CASESEND #1 #7;", "CASERECV v3 #0 v4;"};

    /** Channel 1 is full, channel 2 is empty, channel 3 is closed; case i prints i, and what the case does can be seen. */
    private static void chosen(int can, String alternative) {
        String text = "FUNC 0; MAKE v0 1; SEND v0 #5; MAKE v0 1; MAKE v0 1; CLOSE v0; SELECT;";
        int first = 3;
        for (int i = 2; i >= 0; i--) {
            first = (can >> i & 1) != 0 ? i : first;
        }
        for (int i = 0; i < 3; i++) {
            text += ((can >> i & 1) != 0 ? CAN[i] : CANNOT[i]) + "PRINT #" + i + ";";
        }
        text += alternative + "PRINT #3; END; PRINT #9; END";
        look(ends(EXITED, first + " 9", text), "channel(1)=" + (first == 0 ? 0 : 1) + " channel(2)=" + (first == 1 ? 1 : 0) + " channel(3)=8 clock=0");
    }

    private static void firstCase() {
        about("SELECT: the first CASE in the order of the lines whose SEND or RECV would not wait now");
        for (int can = 0; can < 8; can++) {
            chosen(can, "DEFAULT;");
            chosen(can, "AFTER #0;");
        }
        // The alternative's place among the sections doesn't matter.
        ends(EXITED, "1", "FUNC 0; MAKE v0 1; SELECT; DEFAULT; PRINT #2; CASESEND v0 #1; PRINT #1; END; END");
        ends(EXITED, "1", "FUNC 0; MAKE v0 1; SELECT; AFTER #0; PRINT #2; CASESEND v0 #1; PRINT #1; END; END");
        ends(EXITED, "1", "FUNC 0; MAKE v0 1; SELECT; AFTER #5; PRINT #2; CASESEND v0 #1; PRINT #1; END; END");
        // A channel that is one value short of full, and a full one; one with a value, and an empty one.
        for (int capacity = 0; capacity <= 3; capacity++) {
            for (int fill = 0; fill <= capacity; fill++) {
                String begin = "FUNC 0; MAKE v0 " + capacity + ";" + "SEND v0 #5;".repeat(fill);
                ends(EXITED, fill < capacity ? "1" : "2", begin + "SELECT; CASESEND v0 #6; PRINT #1; DEFAULT; PRINT #2; END; END");
                ends(EXITED, fill > 0 ? "5 1" : "2", begin + "SELECT; CASERECV v1 v0 v2; PRINT v1; PRINT v2; DEFAULT; PRINT #2; END; END");
            }
        }
        // Somebody who waits there keeps it from waiting.
        ends(EXITED, "1 8", "FUNC 0; MAKE v0 0; GO 1 v0; SLEEP #0; SELECT; CASESEND v0 #8; PRINT #1; DEFAULT; PRINT #2; END; SLEEP #0; END;"
                + "FUNC 1; RECV v1 v0 v2; PRINT v1; END");
        ends(EXITED, "8 1", "FUNC 0; MAKE v0 0; GO 1 v0; SLEEP #0; SELECT; CASERECV v1 v0 v2; PRINT v1; PRINT v2; DEFAULT; PRINT #2; END; END;"
                + "FUNC 1; SEND v0 #8; END");
        // A SEND or RECV inside a section is no CASE, nor is a CASE of a SELECT inside it.
        ends(EXITED, "2", "FUNC 0; MAKE v0 1; SELECT; CASERECV v1 v0 v2; SEND v0 #1; SELECT; CASESEND v0 #1; PRINT #1; END; DEFAULT; PRINT #2; END; END");
    }

    private static void closedCase() {
        about("(on a closed channel it doesn't) is done and its section entered;");
        ends(EXITED, "0 0", "FUNC 0; MAKE v0 1; CLOSE v0; SET v1 #8; SET v2 #9; SELECT; CASERECV v1 v0 v2; PRINT v1; PRINT v2; DEFAULT; PRINT #3; END; END");
        panics(-1, "", "FUNC 0; MAKE v0 1; CLOSE v0; SELECT; CASESEND v0 #1; PRINT #1; DEFAULT; PRINT #2; END; END");
        panics(-1, "", "FUNC 0; MAKE v0 1; CLOSE v0; SELECT; CASESEND v0 #1; PRINT #1; CASERECV v1 v0 v2; PRINT #2; END; END");
        ends(EXITED, "2", "FUNC 0; MAKE v0 1; CLOSE v0; SELECT; CASERECV v1 v0 v2; PRINT #2; CASESEND v0 #1; PRINT #1; END; END");
        // A case before it that need not wait spares it.
        ends(EXITED, "3", "FUNC 0; MAKE v0 1; CLOSE v0; MAKE v1 1; SELECT; CASESEND v1 #1; PRINT #3; CASESEND v0 #1; PRINT #1; END; END");
        panics(-1, "", "FUNC 0; MAKE v0 1; CLOSE v0; MAKE v1 1; SELECT; CASERECV v2 v1 v3; PRINT #3; CASESEND v0 #1; PRINT #1; END; END");
        // The case is done: its section is the only one entered, VAR c is set after VAR a.
        ends(EXITED, "7 1 9", "FUNC 0; MAKE v0 1; SEND v0 #7; SELECT; CASERECV v1 v0 v2; PRINT v1; PRINT v2; CASESEND v0 #1; PRINT #3; DEFAULT; PRINT #4; END; PRINT #9; END");
        ends(EXITED, "1", "FUNC 0; MAKE v0 1; SEND v0 #7; SELECT; CASERECV v1 v0 v1; PRINT v1; END; END");
    }

    private static void alternative() {
        about("if there is none, DEFAULT's section, or AFTER's if its a is 0 or less;");
        look(ends(EXITED, "2 9", "FUNC 0; MAKE v0 0; SELECT; CASERECV v1 v0 v2; PRINT #1; DEFAULT; PRINT #2; END; PRINT #9; END"), "clock=0");
        look(ends(EXITED, "9", "FUNC 0; SELECT; DEFAULT; END; PRINT #9; END"), "clock=0");
        for (String a : new String[] {"#0", "-1", "-2147483648"}) {
            look(ends(EXITED, "2 9", "FUNC 0; MAKE v0 0; GO 1; SELECT; CASERECV v1 v0 v2; PRINT #1; AFTER " + a + "; PRINT #2; END; PRINT #9; END;"
                    + "FUNC 0; PRINT #7; END"), "clock=0");
        }
        // Above 0 it waits, and the others run.
        look(ends(EXITED, "7 2 9", "FUNC 0; MAKE v0 0; GO 1; SELECT; CASERECV v1 v0 v2; PRINT #1; AFTER #1; PRINT #2; END; PRINT #9; END; FUNC 0; PRINT #7; END"), "clock=1");
        // DEFAULT lets nobody else run.
        ends(EXITED, "2", "FUNC 0; GO 1; SELECT; DEFAULT; PRINT #2; END; END; FUNC 0; PRINT #7; END");
    }

    private static void waits() {
        about("if there is none such, the goroutine waits with all its cases, that is to say on each of their channels.");
        look(ends(STUCK, "", "FUNC 0; SELECT; END; PRINT #1; END"), "waitsAt(0)=1");
        String select = "FUNC 0; MAKE v0 0; MAKE v0 0; MAKE v0 0; GO 1; SLEEP #0; @; SLEEP #0; END;"
                + "FUNC 0; SELECT; CASERECV v1 #1 v2; PRINT #1; PRINT v1; CASESEND #2 #8; PRINT #2; CASERECV v1 #3 v2; PRINT #3; PRINT v1; END; PRINT #9; END";
        look(ends(STUCK, "", select.replace("@", "SELECT; END")), "waitsAt(0)=6 waitsAt(1)=11");
        ends(EXITED, "1 71 9", select.replace("@", "SEND #1 #71"));
        ends(EXITED, "8 2 9", select.replace("@", "RECV v1 #2 v2; PRINT v1"));
        ends(EXITED, "3 73 9", select.replace("@", "SEND #3 #73"));
        // Served by one case it waits with the others no more.
        look(ends(STUCK, "1 71 9", select.replace("@", "SEND #1 #71; SEND #3 #73")), "waitsAt(0)=7 waitsAt(1)=-2");
        look(ends(STUCK, "1 71 9", select.replace("@", "SEND #1 #71; RECV v1 #2 v2")), "waitsAt(0)=7 waitsAt(1)=-2");
        ends(EXITED, "1 71 9", select.replace("@", "SEND #1 #71; CLOSE #2; CLOSE #3"));
        // The directions are kept apart: nobody can send to a case that sends.
        look(ends(STUCK, "", select.replace("@", "SEND #2 #72")), "waitsAt(0)=6 waitsAt(1)=10");
        look(ends(STUCK, "", select.replace("@", "RECV v1 #1 v2")), "waitsAt(0)=6 waitsAt(1)=10");
        // Among others it has its place by when it began to wait.
        ends(EXITED, "1 2 3", "FUNC 0; MAKE v0 0; GO 1 v0 #1; GO 2 v0 #2; GO 1 v0 #3; SLEEP #0; SEND v0 #0; SEND v0 #0; SEND v0 #0; SLEEP #0; END;"
                + "FUNC 2; RECV v2 v0 v3; PRINT v1; END; FUNC 2; SELECT; CASERECV v2 #0 v3; CASESEND #9 #1; CASERECV v2 v0 v3; PRINT v1; END; END");
    }

    private static void served() {
        about("When another goroutine serves it, the first of its cases that fits counts");
        String twoOfEach = "FUNC 0; MAKE v0 @; GO 1 v0; SLEEP #0; ACT; SLEEP #0; END;";
        String receives = "FUNC 1; SELECT; CASESEND #0 #1; PRINT #1; CASERECV v1 v0 v2; PRINT #2; CASERECV v3 v0 v4; PRINT #3; END; END";
        String sends = "FUNC 1; SELECT; CASERECV v1 #0 v2; PRINT #1; CASESEND v0 #72; PRINT #2; CASESEND v0 #73; PRINT #3; END; END";
        String both = "FUNC 1; SELECT; CASESEND v0 #71; PRINT #1; CASERECV v1 v0 v2; PRINT #2; CASESEND v0 #73; PRINT #3; END; END";
        String none = twoOfEach.replace("@", "0");
        ends(EXITED, "2", none.replace("ACT", "SEND v0 #5") + receives);
        ends(EXITED, "2", none.replace("ACT", "CLOSE v0") + receives);
        ends(EXITED, "72 2", none.replace("ACT", "RECV v1 v0 v2; PRINT v1") + sends);
        ends(EXITED, "2", none.replace("ACT", "SEND v0 #5") + both);
        ends(EXITED, "71 1", none.replace("ACT", "RECV v1 v0 v2; PRINT v1") + both);
        // Served by a SELECT's case likewise; there it is the serving one's first case that counts first.
        ends(EXITED, "6 2", none.replace("ACT", "SELECT; CASESEND v0 #5; PRINT #6; CASERECV v1 v0 v2; PRINT #7; END") + both);
        ends(EXITED, "71 1", none.replace("ACT", "SELECT; CASERECV v1 v0 v2; PRINT v1; CASESEND v0 #5; PRINT #6; END") + both);
        // A waiting CASESEND adds its value when a receiver has made room.
        look(ends(STUCK, "5 2 72", "FUNC 0; MAKE v0 1; SEND v0 #5; GO 1 v0; SLEEP #0; RECV v1 v0 v2; PRINT v1; SLEEP #0; RECV v1 v0 v2; PRINT v1; SELECT; END; END;" + sends),
                "waitsAt(1)=-2 channel(1)=0");
        about("and its section is entered.");
        ends(EXITED, "2 9", none.replace("ACT", "SEND v0 #5") + receives.replace("END; END", "END; PRINT #9; END"));
        // At once its VARs are set; it goes on when it becomes the running one.
        Counted x = after(6, none.replace("ACT", "SEND v0 #5") + receives);
        look(x, "waitsAt(1)=8 variable(1,1)=0");
        step(x, 1);
        look(x, "waitsAt(1)=-3 variable(1,1)=5 variable(1,2)=1 variable(1,3)=0 variable(1,4)=0 printed=0");
        step(x, 1);
        look(x, "printed=0");
        step(x, 1);
        look(x, "printed=1 output(0)=2");
    }

    private static void closedWhileWaiting() {
        about("(for CLOSE: the first CASERECV on the channel, when the receivers stop; if it has none, when the senders stop it has panic -1 at the SELECT),");
        String main = "FUNC 0; MAKE v0 0; MAKE v1 0; GO 1 v0 v1; SLEEP #0; CLOSE v0; PRINT #9; SLEEP #0; END;";
        String note = "FUNC 0; RECOVER v0; PRINT v0; END";
        // It has CASERECVs on the channel.
        ends(EXITED, "9 2 0 0", main + "FUNC 2; DEFER 2; SET v2 #7; SET v3 #8; SELECT; CASERECV v4 v1 v5; PRINT #1; CASERECV v2 v0 v3; PRINT #2; PRINT v2; PRINT v3;"
                + "CASERECV v4 v0 v5; PRINT #3; END; RETURN; END;" + "FUNC 0; END");
        // A CASESEND before it on the same channel doesn't matter.
        ends(EXITED, "9 2 0 0", main + "FUNC 2; DEFER 2; SELECT; CASESEND v0 #1; PRINT #1; CASERECV v2 v0 v3; PRINT #2; PRINT v2; PRINT v3; END; END; FUNC 0; END");
        // It has none: panic, at the SELECT, when it becomes the running one.
        ends(EXITED, "9 -1", main + "FUNC 2; DEFER 2; SELECT; CASESEND v0 #1; PRINT #1; END; PRINT #2; END;" + note);
        ends(EXITED, "9 -1", main + "FUNC 2; DEFER 2; SELECT; CASERECV v2 v1 v3; PRINT #3; CASESEND v0 #1; PRINT #1; AFTER #9; PRINT #4; END; PRINT #2; END;" + note);
        look(panics(-1, "9", main + "FUNC 2; SELECT; CASESEND v0 #1; PRINT #1; CASESEND v0 #2; PRINT #3; END; END"), "waitsAt(1)=-2 waitsAt(0)=-3");
        // Neither: it goes on waiting.
        look(ends(EXITED, "9", main + "FUNC 2; SELECT; CASERECV v2 v1 v3; PRINT #3; CASESEND v1 #1; PRINT #1; END; END"), "waitsAt(1)=10");
        // In the order of all the others.
        ends(EXITED, "9 1 2 3", "FUNC 0; MAKE v0 0; GO 1 v0 #1; GO 2 v0 #2; GO 1 v0 #3; SLEEP #0; CLOSE v0; PRINT #9; SLEEP #0; END;"
                + "FUNC 2; RECV v2 v0 v3; PRINT v1; END; FUNC 2; SELECT; CASERECV v2 v0 v3; PRINT v1; END; END");
        ends(EXITED, "9 1 2 3", "FUNC 0; MAKE v0 0; GO 1 v0 #1; GO 2 v0 #2; GO 1 v0 #3; SLEEP #0; CLOSE v0; PRINT #9; SLEEP #0; END;"
                + "FUNC 2; DEFER 3 v1; SEND v0 #7; END; FUNC 2; DEFER 3 v1; SELECT; CASESEND v0 #7; END; END; FUNC 1; RECOVER v1; PRINT v0; END");
    }
}
