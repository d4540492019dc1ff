/** Terms: TIME. */
final class TimeSentences extends Sentences {
    @Override
    void all() {
        startsAtZero();
        yields();
        sleeps();
        selectsWait();
        passes();
        wakes();
    }

    private static void startsAtZero() {
        about("TIME: a clock, a long, 0 at first.");
        look(new Counted(), "clock=0");
        look(Program.ready("FUNC 0; SLEEP #5; END"), "clock=0");
        // Past what an int can hold.
        long most = 2147483641L;
        look(ends(EXITED, "", "FUNC 0; SLEEP 2147483647; END"), "clock=" + most);
        look(ends(EXITED, "", "FUNC 0; SLEEP 2147483647; SLEEP #6; END"), "clock=2147483647");
        look(ends(EXITED, "", "FUNC 0; SLEEP 2147483647; SLEEP #7; END"), "clock=2147483648");
        look(ends(EXITED, "", "FUNC 0; SLEEP 2147483647; SELECT; AFTER #7; END; END"), "clock=2147483648");
        look(ends(EXITED, "", "FUNC 0; SUB v0 #0 -2147483647; SLEEP v0; SLEEP v0; SELECT; AFTER v0; END; END"), "clock=" + 3 * 2147483647L);
        // Who sleeps longer wakes later there too.
        ends(EXITED, "1 2", "FUNC 0; GO 1 #7 #1; GO 1 #8 #2; SLEEP 2147483647; SLEEP #50; END; FUNC 2; SLEEP 2147483647; SLEEP v0; PRINT v1; END");
    }

    private static void yields() {
        about("SLEEP a: if a is 0 or less, the goroutine goes to the end of the queue, and the first of the queue (itself, if there is no other) runs;");
        for (String a : new String[] {"#0", "-1", "-2147483648"}) {
            look(ends(EXITED, "1 2", "FUNC 0; PRINT #1; SLEEP " + a + "; PRINT #2; END"), "clock=0");
            look(ends(EXITED, "1 5 6 2", "FUNC 0; GO 1 #5; GO 1 #6; PRINT #1; SLEEP " + a + "; PRINT #2; END; FUNC 1; PRINT v0; END"), "clock=0");
            ends(EXITED, "5 1 6 2 7", "FUNC 0; GO 1; SLEEP " + a + "; PRINT #1; SLEEP " + a + "; PRINT #2; SLEEP " + a + "; END;"
                    + "FUNC 0; PRINT #5; SLEEP " + a + "; PRINT #6; SLEEP " + a + "; PRINT #7; END");
            // It does not wait.
            look(after(3, "FUNC 0; GO 1; SLEEP " + a + "; END; FUNC 0; PRINT #1; PRINT #1; END"), "waitsAt(0)=-3 waitsAt(1)=-3 state=1");
            // Who sleeps until some time is not woken for it.
            ends(EXITED, "1 2 3", "FUNC 0; GO 1; SLEEP #1; PRINT #3; END; FUNC 0; PRINT #1; SLEEP " + a + "; PRINT #2; END");
        }
    }

    private static void sleeps() {
        about("else it waits until the time clock + a.");
        for (int a : new int[] {1, 2, 1000}) {
            look(ends(EXITED, "1", "FUNC 0; SLEEP #" + a + "; PRINT #1; END"), "clock=" + a);
            look(ends(EXITED, "1", "FUNC 0; SLEEP #3; SLEEP #" + a + "; PRINT #1; END"), "clock=" + (3 + a));
        }
        look(after(4, "FUNC 0; GO 1; SLEEP #1; END; FUNC 0; LOOP #1; END; END"), "waitsAt(0)=2 waitsAt(1)=-3 clock=0");
        look(after(4, "FUNC 0; GO 1; SLEEP #0; END; FUNC 0; LOOP #1; END; END"), "waitsAt(0)=-3 waitsAt(1)=-3 clock=0");
    }

    private static void selectsWait() {
        about("A SELECT that waits and has AFTER a (a above 0) waits until clock + a at most; then AFTER's section is entered.");
        String select = "SELECT; CASERECV v1 v0 v2; PRINT #1; AFTER #@; PRINT #2; END; PRINT #9;";
        for (int a : new int[] {1, 2, 1000}) {
            look(ends(EXITED, "2 9", "FUNC 0; MAKE v0 0;" + select.replace("@", "" + a) + "END"), "clock=" + a);
            look(ends(EXITED, "2 9", "FUNC 0; MAKE v0 0; SLEEP #3;" + select.replace("@", "" + a) + "END"), "clock=" + (3 + a));
        }
        // AFTER's section may be first, last, alone, or without lines.
        look(ends(EXITED, "2", "FUNC 0; MAKE v0 0; SELECT; AFTER #4; PRINT #2; CASERECV v1 v0 v2; PRINT #1; END; END"), "clock=4");
        look(ends(EXITED, "2", "FUNC 0; SELECT; AFTER #4; PRINT #2; END; END"), "clock=4");
        look(ends(EXITED, "9", "FUNC 0; MAKE v0 0; SELECT; AFTER #4; CASERECV v1 v0 v2; PRINT #1; END; PRINT #9; END"), "clock=4");
        // The sender comes a moment before, at, and a moment after the time until which the SELECT waits.
        String main = "FUNC 0; MAKE v0 0; GO 1 v0; SLEEP #@; SEND v0 #5; SELECT; END; END;";
        String other = "FUNC 1;" + select.replace("@", "6") + "SELECT; END; END";
        look(ends(STUCK, "1 9", main.replace("@", "5") + other), "clock=5 waitsAt(0)=5 variable(1,1)=5");
        look(ends(STUCK, "2 9", main.replace("@", "7") + other), "clock=7 waitsAt(0)=4 variable(1,1)=0");
        // At the same time the one that began to wait first goes on first, but both have stopped waiting.
        look(ends(STUCK, "2 9", main.replace("@", "6") + other), "clock=6 waitsAt(0)=4");
        look(ends(STUCK, "2 9", "FUNC 0; MAKE v0 0; GO 1 v0; SELECT; CASERECV v1 v0 v2; PRINT #1; AFTER #6; PRINT #2; END; PRINT #9; SELECT; END; END;"
                + "FUNC 1; SLEEP #6; SEND v0 #5; PRINT #7; END"), "clock=6 waitsAt(1)=15");
        // A SELECT that need not wait leaves the clock alone.
        look(ends(EXITED, "1", "FUNC 0; MAKE v0 1; SELECT; CASESEND v0 #1; PRINT #1; AFTER #6; PRINT #2; END; END"), "clock=0");
        // The time is forgotten when it is served or closed.
        look(ends(STUCK, "1 9", "FUNC 0; MAKE v0 0; GO 1 v0; SLEEP #1; SEND v0 #5; SELECT; END; END;" + other), "clock=1");
        look(ends(STUCK, "1 9", "FUNC 0; MAKE v0 0; GO 1 v0; SLEEP #1; CLOSE v0; SELECT; END; END;" + other), "clock=1");
        look(ends(STUCK, "-1", "FUNC 0; MAKE v0 0; GO 1 v0; SLEEP #1; CLOSE v0; SELECT; END; END; FUNC 1; CALL 2 v0; SELECT; END; END;"
                + "FUNC 1; DEFER 3; SELECT; CASESEND v0 #1; AFTER #6; PRINT #2; END; END; FUNC 0; RECOVER v0; PRINT v0; END"), "clock=1");
    }

    private static void passes() {
        about("Time passes only when the running one ends or waits and the queue is empty:");
        // As long as somebody runs, it doesn't.
        Counted x = Program.ready("FUNC 0; GO 1; SLEEP #1; PRINT #1; END; FUNC 0; LOOP #1; END; END");
        step(x, 3);
        for (int i = 0; i < 5; i++) {
            due("run(200) while another one runs", RUNNING, x.run(200));
            look(x, "clock=0 waitsAt(0)=2 printed=0");
        }
        // Two that go to the queue by turns keep it from passing; so does one alone.
        Counted y = Program.ready("FUNC 0; GO 1; GO 1; SLEEP #1; PRINT #1; END; FUNC 0; LOOP #1; SLEEP #0; END; END");
        due("run(200) of two by turns", RUNNING, y.run(200));
        look(y, "clock=0 waitsAt(0)=3 printed=0");
        Counted z = Program.ready("FUNC 0; GO 1; SLEEP #1; PRINT #1; END; FUNC 0; LOOP #1; SLEEP #0; END; END");
        due("run(200) of one alone", RUNNING, z.run(200));
        look(z, "clock=0 waitsAt(0)=2 printed=0");
        // It passes in the very step in which the running one ends, and in which it waits.
        Counted ended = after(4, "FUNC 0; GO 1; SLEEP #4; PRINT #1; END; FUNC 0; PRINT #2; END");
        look(ended, "clock=0 waitsAt(0)=2");
        step(ended, 1);
        look(ended, "clock=4 waitsAt(0)=-3 waitsAt(1)=-2 printed=1");
        Counted waits = after(4, "FUNC 0; GO 1; SLEEP #4; PRINT #1; END; FUNC 0; SELECT; END; END");
        look(waits, "clock=0 waitsAt(0)=2");
        step(waits, 1);
        look(waits, "clock=4 waitsAt(0)=-3 waitsAt(1)=6");
        // Somebody else in the queue comes first.
        Counted queued = after(5, "FUNC 0; GO 1; GO 1; SLEEP #4; PRINT #1; END; FUNC 0; END");
        look(queued, "clock=0 waitsAt(0)=3 waitsAt(1)=-2 waitsAt(2)=-3");
        step(queued, 1);
        look(queued, "clock=4 waitsAt(0)=-3 waitsAt(1)=-2 waitsAt(2)=-2");
    }

    private static void wakes() {
        about("the clock then becomes the earliest of the times until which goroutines wait,");
        String sleeper = "FUNC 2; SLEEP v0; PRINT v1; END";
        look(ends(EXITED, "2 1 3", "FUNC 0; GO 1 #5 #1; GO 1 #4 #2; GO 1 #6 #3; SLEEP #7; END;" + sleeper), "clock=7");
        look(after(11, "FUNC 0; GO 1 #5 #1; GO 1 #4 #2; GO 1 #6 #3; SLEEP #7; END;" + sleeper), "clock=4 waitsAt(0)=4 waitsAt(1)=7 waitsAt(2)=-3 waitsAt(3)=7");
        look(ends(EXITED, "1 2", "FUNC 0; GO 1 #1 #1; SELECT; AFTER #2; PRINT #2; END; END;" + sleeper), "clock=2");
        look(ends(EXITED, "2", "FUNC 0; GO 1 #3 #1; SELECT; AFTER #2; PRINT #2; END; END;" + sleeper), "clock=2 waitsAt(1)=8");
        about("and all whose time that is stop waiting, in the order in which they began to wait.");
        // Goroutine 3 began first to wait until 6, then 1, then 2, then 0.
        look(ends(EXITED, "3 1 2 0", "FUNC 0; GO 1 #1 #1; GO 1 #2 #2; GO 2 #6 #3; SLEEP #3; SLEEP #3; PRINT #0; END;"
                + "FUNC 2; SLEEP v0; SUB v0 #6 v0; SLEEP v0; PRINT v1; END; FUNC 2; SLEEP v0; PRINT v1; END"), "clock=6");
        Counted x = after(11, "FUNC 0; GO 1 #4 #1; GO 1 #5 #2; GO 1 #4 #3; SLEEP #4; PRINT #9; END;" + sleeper);
        look(x, "clock=4 waitsAt(0)=-3 waitsAt(1)=-3 waitsAt(2)=8 waitsAt(3)=-3");
        // SLEEP and SELECT alike.
        ends(EXITED, "1 2 3", "FUNC 0; GO 1 #4 #1; GO 2 #4 #2; GO 1 #4 #3; SLEEP #5; END;" + sleeper + "; FUNC 2; SELECT; AFTER v0; PRINT v1; END; END");
        // All twelve at once.
        look(ends(EXITED, "0 1 2 3 4 5 6 7 8 9 10 11", "FUNC 0; SET v0 #0; LOOP #1; ADD v0 v0 #1; GO 1 #9 v0; SAME v1 v0 #11; IF v1; BREAK; END; END;"
                + "SLEEP #9; PRINT #0; SLEEP #0; END;" + sleeper), "clock=9");
    }
}
