/** Terms: MEANING of channels, SEND, RECV and CLOSE. */
final class ChannelSentences extends Sentences {
    /** What is no number of a channel when two have been made. */
    private static final String[] NO_CHANNEL = {"#0", "#3", "#4", "#8", "#9", "-1", "-2", "-2147483648", "2147483647"};

    /** Eleven start function 1 with their numbers from 11 down to 1 and the channel, and wait before goroutine 0 goes on. */
    private static final String ALL = "FUNC 0; MAKE v1 0; SET v0 #11; LOOP v0; GO 1 v0 v1; SUB v0 v0 #1; END; SLEEP #0;";
    private static final String ELEVEN = "11 10 9 8 7 6 5 4 3 2 1";

    @Override
    void all() {
        numbers();
        nothingHappens();
        sendOnClosed();
        sendToReceiver();
        sendAdds();
        sendWaits();
        receiveOldest();
        receiveLetsAdd();
        receiveFromSender();
        receiveClosed();
        receiveWaits();
        flagAfterValue();
        closeRefused();
        closeReceivers();
        closeSenders();
    }

    private static void numbers() {
        about("Channels are numbered 1, 2, .. in the order in which MAKE makes them;");
        Counted x = Program.ready("FUNC 0;" + "MAKE v0 1; SEND v0 #1;".repeat(8) + "END");
        step(x, 1);
        for (int n = 1; n <= 8; n++) {
            look(x, "channel(" + n + ")=-1");
            step(x, 1);
            look(x, "variable(0,0)=" + n + " channel(" + n + ")=0 channel(" + (n - 1) + ")=" + (n == 1 ? -1 : 1));
            step(x, 1);
            look(x, "channel(" + n + ")=1");
        }
        // All goroutines count together.
        ends(EXITED, "1 2 3", "FUNC 0; MAKE v0 0; PRINT v0; GO 1; SLEEP #0; MAKE v0 0; PRINT v0; END; FUNC 0; MAKE v0 0; PRINT v0; END");
    }

    private static void nothingHappens() {
        about("a value that is no number of a channel is a channel on which nothing ever happens.");
        String two = "FUNC 0; MAKE v0 3; MAKE v1 3;";
        for (String ch : NO_CHANNEL) {
            look(ends(STUCK, "", two + "SEND " + ch + " #1; PRINT #1; END"), "waitsAt(0)=3 channel(1)=0 channel(2)=0");
            look(ends(STUCK, "", two + "RECV v2 " + ch + " v3; PRINT #1; END"), "waitsAt(0)=3");
            look(ends(STUCK, "", two + "SELECT; CASESEND " + ch + " #1; CASERECV v2 " + ch + " v3; END; END"), "waitsAt(0)=3");
            ends(EXITED, "2", two + "SELECT; CASESEND " + ch + " #1; PRINT #1; CASERECV v2 " + ch + " v3; PRINT #1; DEFAULT; PRINT #2; END; END");
            // Two that wait there do not meet.
            look(ends(STUCK, "", two + "GO 1; SEND " + ch + " #1; END; FUNC 0; RECV v0 " + ch + " v1; END"), "waitsAt(0)=4 waitsAt(1)=7");
            look(ends(STUCK, "", two + "GO 1; RECV v0 " + ch + " v1; END; FUNC 0; SEND " + ch + " #1; END"), "waitsAt(0)=4 waitsAt(1)=7");
        }
        for (String ch : new String[] {"#1", "#2"}) {
            ends(EXITED, "1 5", two + "SEND " + ch + " #5; PRINT #1; RECV v2 " + ch + " v3; PRINT v2; END");
        }
        // Before the first MAKE there is none; a case on such a value does not keep the others from being served.
        look(ends(STUCK, "", "FUNC 0; SEND #1 #1; END"), "waitsAt(0)=1");
        look(ends(STUCK, "", "FUNC 0; RECV v0 #1 v1; END"), "waitsAt(0)=1");
        ends(EXITED, "2", "FUNC 0; MAKE v0 0; GO 1 v0; SLEEP #0; SEND v0 #1; SLEEP #0; END;"
                + "FUNC 1; SELECT; CASERECV v1 #7 v2; PRINT #1; CASERECV v1 v0 v2; PRINT #2; END; END");
    }

    private static void sendOnClosed() {
        about("SEND on a channel: if closed, panic -1.");
        for (int capacity = 0; capacity <= 3; capacity++) {
            for (int fill = 0; fill <= capacity; fill++) {
                String fills = "SEND v0 #1;".repeat(fill);
                look(panics(-1, "", "FUNC 0; MAKE v0 " + capacity + ";" + fills + "CLOSE v0; SEND v0 #9; PRINT #1; END"), "channel(1)=" + (fill + 8));
            }
        }
        ends(EXITED, "1", "FUNC 0; MAKE v0 1; MAKE v1 1; CLOSE v0; SEND v1 #9; PRINT #1; END");
    }

    private static void sendToReceiver() {
        about("Else if a goroutine waits to receive from it, the one that has waited longest gets the value.");
        // The receivers begin to wait in the order 3, 1, 2.
        String order = "GO 1 v0 #2; GO 1 v0 #3; GO 1 v0 #1; SLEEP #5;";
        String receives = "SLEEP #0; END; FUNC 2; SLEEP v1; RECV v2 v0 v3; PRINT v1; PRINT v2; PRINT v3; END";
        for (int capacity = 0; capacity <= 3; capacity++) {
            look(ends(EXITED, "1 71 1 2 72 1 3 73 1", "FUNC 0; MAKE v0 " + capacity + ";" + order + "SEND v0 #71; SEND v0 #72; SEND v0 #73;" + receives),
                    "channel(1)=0");
            Counted x = ends(EXITED, "1 71 1", "FUNC 0; MAKE v0 " + capacity + ";" + order + "SEND v0 #71;" + receives);
            look(x, "waitsAt(1)=11 waitsAt(2)=11 waitsAt(3)=-2 channel(1)=0");
        }
        ends(EXITED, ELEVEN, ALL + "SET v0 #11; LOOP v0; SEND v1 v0; SUB v0 v0 #1; END; SLEEP #0; END; FUNC 2; RECV v2 v1 v3; PRINT v2; END");
        // Who waits on another channel gets nothing.
        look(ends(STUCK, "", "FUNC 0; MAKE v0 0; MAKE v1 0; GO 1 v0; SLEEP #0; SEND v1 #7; END; FUNC 1; RECV v1 v0 v2; PRINT v1; END"),
                "waitsAt(0)=5 waitsAt(1)=8");
        // He gets it at once, in the SEND's step.
        Counted y = after(6, "FUNC 0; MAKE v0 3; GO 1 v0; SLEEP #0; SEND v0 #71; SLEEP #1; END; FUNC 1; RECV v1 v0 v2; END");
        look(y, "waitsAt(1)=8 variable(1,1)=0 variable(1,2)=0");
        step(y, 1);
        look(y, "waitsAt(1)=-3 variable(1,1)=71 variable(1,2)=1 channel(1)=0");
    }

    private static void sendAdds() {
        about("Else if fewer values are in the channel than its capacity, the value is added.");
        for (int capacity = 0; capacity <= 3; capacity++) {
            Counted x = after(2, "FUNC 0; MAKE v0 " + capacity + ";" + "SEND v0 #5;".repeat(4) + "END");
            for (int fill = 0; fill < capacity; fill++) {
                look(x, "state=1 waitsAt(0)=-3 channel(1)=" + fill);
                step(x, 1);
            }
            look(x, "state=1 waitsAt(0)=-3 channel(1)=" + capacity);
            step(x, 1);
            look(x, "state=4 waitsAt(0)=" + (2 + capacity) + " channel(1)=" + capacity);
        }
        // Room that a receiver made counts again.
        ends(EXITED, "1 2 3 4", "FUNC 0; MAKE v0 1; SET v1 #0; LOOP #1; ADD v1 v1 #1; SEND v0 v1; RECV v2 v0 v3; PRINT v2; SAME v2 v1 #4; IF v2; BREAK; END; END; END");
        // Each channel has its own room.
        look(ends(STUCK, "", "FUNC 0; MAKE v0 3; MAKE v1 1; SEND v1 #1; SEND v0 #1; SEND v0 #1; SEND v0 #1; SEND v1 #1; END"),
                "waitsAt(0)=7 channel(1)=3 channel(2)=1");
    }

    private static void sendWaits() {
        about("Else the goroutine waits to send.");
        for (int capacity = 0; capacity <= 3; capacity++) {
            look(ends(STUCK, "", "FUNC 0; MAKE v0 " + capacity + ";" + "SEND v0 #5;".repeat(capacity + 1) + "PRINT #1; END"),
                    "waitsAt(0)=" + (2 + capacity) + " channel(1)=" + capacity);
        }
        // The others go on meanwhile.
        ends(EXITED, "1 2", "FUNC 0; MAKE v0 0; GO 1 v0; SEND v0 #2; END; FUNC 1; PRINT #1; RECV v1 v0 v2; PRINT v1; END");
    }

    private static void receiveOldest() {
        about("RECV: if there are values in the channel, VAR a gets the oldest and VAR c 1;");
        String receive = "RECV v1 v0 v2; PRINT v1; PRINT v2;";
        for (int capacity = 1; capacity <= 3; capacity++) {
            for (int fill = 1; fill <= capacity; fill++) {
                String sends = "SEND v0 #71; SEND v0 #72; SEND v0 #73;".substring(0, 12 * fill + fill - 1);
                for (String close : new String[] {"", "CLOSE v0;"}) {
                    Counted x = ends(EXITED, "71 1 72 1 73 1".substring(0, 5 * fill - 1),
                            "FUNC 0; MAKE v0 " + capacity + ";" + sends + close + receive.repeat(fill) + "END");
                    look(x, "channel(1)=" + (close.isEmpty() ? 0 : 8));
                }
            }
        }
        // The values go round in the channel: it is emptied and filled again.
        ends(EXITED, "1 2 3 4 5 6 7", "FUNC 0; MAKE v0 3; SEND v0 #1; SEND v0 #2; RECV v1 v0 v2; PRINT v1; SEND v0 #3; SEND v0 #4; RECV v1 v0 v2; PRINT v1;"
                + "SEND v0 #5; RECV v1 v0 v2; PRINT v1; RECV v1 v0 v2; PRINT v1; SEND v0 #6; SEND v0 #7;" + "RECV v1 v0 v2; PRINT v1;".repeat(3) + "END");
        // All eight channels, each full.
        String all = "";
        for (int ch = 8; ch >= 1; ch--) {
            all += (ch == 8 ? "" : " ") + ch + "0 " + ch + "1 " + ch + "2";
        }
        ends(EXITED, all, "FUNC 0; SET v1 #8; LOOP v1; MAKE v0 3; MUL v2 v0 #10; SEND v0 v2; ADD v2 v2 #1; SEND v0 v2; ADD v2 v2 #1; SEND v0 v2; SUB v1 v1 #1; END;"
                + "SET v0 #8; LOOP v0;" + "RECV v2 v0 v3; PRINT v2;".repeat(3) + "SUB v0 v0 #1; END; END");
        // Values 0 and -1 are values as any other.
        ends(EXITED, "0 1 -1 1", "FUNC 0; MAKE v0 2; SEND v0 #0; SEND v0 -1; RECV v1 v0 v2; PRINT v1; PRINT v2; RECV v1 v0 v2; PRINT v1; PRINT v2; END");
    }

    private static void receiveLetsAdd() {
        about("then, if a goroutine waits to send on it, the one that has waited longest has its value added and stops waiting.");
        for (int capacity = 1; capacity <= 3; capacity++) {
            String fills = "SEND v0 #70;".repeat(capacity);
            // Three wait to send, in the order 3, 1, 2, with the values 1, 2, 3.
            String text = "FUNC 0; MAKE v0 " + capacity + ";" + fills + "GO 1 v0 #2; GO 1 v0 #3; GO 1 v0 #1; SLEEP #5; RECV v1 v0 v2; PRINT v1; SELECT; END; END;"
                    + "FUNC 2; SLEEP v1; SEND v0 v1; END";
            int send = 13 + capacity;
            look(ends(STUCK, "70", text), "channel(1)=" + capacity + " waitsAt(1)=" + send + " waitsAt(2)=" + send + " waitsAt(3)=-2");
            String rest = "RECV v1 v0 v2; PRINT v1;".repeat(capacity + 2);
            look(ends(STUCK, "70 ".repeat(capacity) + "1 2 3", text.replace("SELECT; END;", rest + "SELECT; END;")),
                    "channel(1)=0 waitsAt(1)=-2 waitsAt(2)=-2 waitsAt(3)=-2");
        }
        // Nobody waits to send: the channel has one fewer.
        look(ends(STUCK, "7", "FUNC 0; MAKE v0 2; SEND v0 #7; SEND v0 #8; RECV v1 v0 v2; PRINT v1; SELECT; END; END"), "channel(1)=1");
    }

    private static void receiveFromSender() {
        about("Else if a goroutine waits to send on it, VAR a gets the value of the one that has waited longest, which stops waiting, VAR c 1.");
        String text = "FUNC 0; MAKE v0 0; GO 1 v0 #2; GO 1 v0 #3; GO 1 v0 #1; SLEEP #5; RECV v1 v0 v2; PRINT v1; PRINT v2; SELECT; END; END;"
                + "FUNC 2; SLEEP v1; SEND v0 v1; END";
        look(ends(STUCK, "1 1", text), "channel(1)=0 waitsAt(1)=14 waitsAt(2)=14 waitsAt(3)=-2");
        look(ends(STUCK, "1 1 2 1 3 1", text.replace("SELECT; END;", "RECV v1 v0 v2; PRINT v1; PRINT v2;".repeat(2) + "SELECT; END;")),
                "waitsAt(1)=-2 waitsAt(2)=-2 waitsAt(3)=-2");
        ends(EXITED, ELEVEN, ALL + "SET v0 #11; LOOP v0; RECV v2 v1 v3; PRINT v2; SUB v0 v0 #1; END; END; FUNC 2; SEND v1 v0; END");
        // Who waits to send on another channel is not received from.
        look(ends(STUCK, "", "FUNC 0; MAKE v0 0; MAKE v1 0; GO 1 v0; SLEEP #0; RECV v2 v1 v3; END; FUNC 1; SEND v0 #1; END"), "waitsAt(0)=5 waitsAt(1)=8");
    }

    private static void receiveClosed() {
        about("Else if it is closed, both become 0.");
        for (int capacity = 0; capacity <= 3; capacity++) {
            ends(EXITED, "0 0 0 0", "FUNC 0; MAKE v0 " + capacity + "; CLOSE v0; SET v1 #8; SET v2 #9; RECV v1 v0 v2; PRINT v1; PRINT v2;"
                    + "SET v1 #8; SET v2 #9; RECV v1 v0 v2; PRINT v1; PRINT v2; END");
        }
        // As long as there are values they come first.
        ends(EXITED, "7 1 0 0", "FUNC 0; MAKE v0 1; SEND v0 #7; CLOSE v0; RECV v1 v0 v2; PRINT v1; PRINT v2; RECV v1 v0 v2; PRINT v1; PRINT v2; END");
        look(ends(STUCK, "", "FUNC 0; MAKE v0 1; MAKE v1 1; CLOSE v0; RECV v2 v1 v3; END"), "waitsAt(0)=4");
    }

    private static void receiveWaits() {
        about("Else the goroutine waits to receive.");
        for (int capacity = 0; capacity <= 3; capacity++) {
            look(ends(STUCK, "", "FUNC 0; MAKE v0 " + capacity + "; SET v1 #8; SET v2 #9; RECV v1 v0 v2; PRINT #1; END"),
                    "waitsAt(0)=4 variable(0,1)=8 variable(0,2)=9 channel(1)=0");
        }
        ends(EXITED, "1 2", "FUNC 0; MAKE v0 0; GO 1 v0; RECV v1 v0 v2; PRINT v1; END; FUNC 1; PRINT #1; SEND v0 #2; END");
    }

    private static void flagAfterValue() {
        about("(VAR c is set after VAR a.)");
        ends(EXITED, "1", "FUNC 0; MAKE v0 1; SEND v0 #7; RECV v1 v0 v1; PRINT v1; END");
        ends(EXITED, "1", "FUNC 0; MAKE v0 0; GO 1 v0; SLEEP #0; RECV v1 v0 v1; PRINT v1; END; FUNC 1; SEND v0 #7; END");
        ends(EXITED, "1", "FUNC 0; MAKE v0 0; GO 1 v0; RECV v1 v0 v1; PRINT v1; END; FUNC 1; SEND v0 #7; END");
        ends(EXITED, "0", "FUNC 0; MAKE v0 1; CLOSE v0; SET v1 #5; RECV v1 v0 v1; PRINT v1; END");
        ends(EXITED, "1", "FUNC 0; MAKE v0 0; GO 1 v0; SELECT; CASERECV v1 v0 v1; PRINT v1; END; END; FUNC 1; SEND v0 #7; END");
        ends(EXITED, "0", "FUNC 0; MAKE v0 0; GO 1 v0; SET v1 #5; SELECT; CASERECV v1 v0 v1; PRINT v1; END; END; FUNC 1; CLOSE v0; END");
        // The channel's own variable may be set.
        ends(EXITED, "1", "FUNC 0; MAKE v0 1; SEND v0 #7; RECV v0 v0 v0; PRINT v0; END");
        ends(EXITED, "7 1", "FUNC 0; MAKE v0 1; SEND v0 #7; RECV v0 v0 v1; PRINT v0; PRINT v1; END");
    }

    private static void closeRefused() {
        about("CLOSE: if it is no channel or closed, panic -1.");
        for (String ch : NO_CHANNEL) {
            look(panics(-1, "", "FUNC 0; MAKE v0 3; MAKE v1 3; CLOSE " + ch + "; PRINT #1; END"), "channel(1)=0 channel(2)=0");
        }
        panics(-1, "", "FUNC 0; CLOSE #1; PRINT #1; END");
        for (int capacity = 0; capacity <= 3; capacity++) {
            look(panics(-1, "1", "FUNC 0; MAKE v0 " + capacity + "; CLOSE v0; PRINT #1; CLOSE v0; PRINT #2; END"), "channel(1)=8");
        }
        // The first and the last of eight.
        for (int ch : new int[] {1, 8}) {
            look(ends(EXITED, "", "FUNC 0;" + "MAKE v0 0;".repeat(8) + "CLOSE #" + ch + "; END"), "channel(" + ch + ")=8 channel(" + (9 - ch) + ")=0");
        }
        look(panics(-1, "", "FUNC 0;" + "MAKE v0 0;".repeat(8) + "CLOSE #9; END"), "channel(8)=0");
        look(ends(EXITED, "", "FUNC 0; MAKE v0 3; SEND v0 #1; SEND v0 #1; CLOSE v0; END"), "channel(1)=10");
    }

    private static void closeReceivers() {
        about("Else it is closed; then all that wait to receive from it stop waiting, in the order in which they have waited (longest first): both VARs become 0;");
        String text = "FUNC 0; MAKE v0 0; MAKE v1 0; GO 1 v0 #2; GO 1 v0 #3; GO 1 v0 #1; GO 1 v1 #4; SLEEP #5; CLOSE v0; PRINT #9; SLEEP #0; END;"
                + "FUNC 2; SLEEP v1; SET v2 #7; SET v3 #8; RECV v2 v0 v3; PRINT v1; PRINT v2; PRINT v3; END";
        look(ends(EXITED, "9 1 0 0 2 0 0 3 0 0", text), "channel(1)=8 channel(2)=0 waitsAt(1)=-2 waitsAt(2)=-2 waitsAt(3)=-2 waitsAt(4)=16");
        // In the CLOSE's own step.
        String one = "FUNC 0; MAKE v0 0; GO 1 v0; SLEEP #0; CLOSE v0; SLEEP #1; END; FUNC 1; SET v1 #8; SET v2 #9; RECV v1 v0 v2; END";
        Counted x = after(8, one);
        look(x, "waitsAt(1)=10 variable(1,1)=8 variable(1,2)=9 channel(1)=0");
        step(x, 1);
        look(x, "waitsAt(1)=-3 variable(1,1)=0 variable(1,2)=0 channel(1)=8");
        // All eleven, and nobody.
        ends(EXITED, ELEVEN, ALL + "CLOSE v1; SLEEP #0; END; FUNC 2; RECV v2 v1 v3; PRINT v0; END");
        ends(EXITED, "9", "FUNC 0; MAKE v0 0; CLOSE v0; PRINT #9; END");
    }

    private static void closeSenders() {
        about("then all that wait to send on it stop waiting, in that order: each, when it becomes the running one, begins with panic -1.");
        // Four wait to send, three of them on the channel that is closed, in the order 3, 1, 2.
        String text = "FUNC 0; MAKE v0 0; MAKE v1 0; GO 1 v0 #2; GO 1 v0 #3; GO 1 v0 #1; GO 1 v1 #4; SLEEP #5; CLOSE v0; PRINT #9; SLEEP #0; PRINT #8; END;"
                + "FUNC 2; SLEEP v1; DEFER 2 v1; SEND v0 #7; PRINT #6; END; FUNC 1; RECOVER v1; PRINT v0; PRINT v1; END";
        look(ends(EXITED, "9 1 -1 2 -1 3 -1 8", text), "channel(1)=8 channel(2)=0 waitsAt(4)=16");
        ends(EXITED, ELEVEN, ALL + "CLOSE v1; SLEEP #0; END; FUNC 2; DEFER 2 v0; SEND v1 v0; PRINT #99; END; FUNC 1; RECOVER v1; PRINT v0; END");
        // Their values are lost: the channel keeps what was in it.
        look(ends(EXITED, "5 1 0 0", "FUNC 0; MAKE v0 1; SEND v0 #5; GO 1 v0; SLEEP #0; CLOSE v0; RECV v1 v0 v2; PRINT v1; PRINT v2; RECV v1 v0 v2; PRINT v1; PRINT v2; END;"
                + "FUNC 1; SEND v0 #7; END"), "waitsAt(1)=-3");
        // Not before it becomes the running one.
        Counted x = after(8, "FUNC 0; MAKE v0 0; GO 1 v0; SLEEP #0; CLOSE v0; PRINT #9; SLEEP #0; END; FUNC 1; DEFER 2; SEND v0 #1; END; FUNC 0; SLEEP #1; END");
        look(x, "state=1 channel(1)=8 waitsAt(1)=-3 panicking(1)=0 notes(1)=1 printed=0");
        step(x, 1);
        look(x, "state=1 panicking(1)=0 printed=1");
        step(x, 1);
        look(x, "state=1 panicking(1)=1 notes(1)=0");
    }
}
