/** Promises 6 to 14 with everything at its greatest: goroutines, activations, notes, channels, values, waits. */
public final class FullTest {
    private static final Answers answers = new Answers();
    private static final Runs runs = new Runs(answers);

    public static void main(String[] args) {
        allAtOnce();
        allSleep();
        allSendersClosed();
        manyCalls();
        answers.finish();
    }

    /** Twelve goroutines with four activations each, eleven with three notes and three cases, eight full channels. */
    private static void allAtOnce() {
        Counted x = runs.due(ChannelProgramRunner.OVERFLOW, "1 2 3 11 10 9 8 7 6 5 4 3 2 1",
                "FUNC 0; SET v0 #8; LOOP v0; MAKE v1 3; SEND v1 #1; SEND v1 #2; SEND v1 #3; SUB v0 v0 #1; END;"
                + "SET v0 #11; LOOP v0; GO 1 #3 v0; SUB v0 v0 #1; END; SLEEP #0; CALL 2 #2 #8; END;"
                + "FUNC 2; DEFER 3; DEFER 3; DEFER 3; IF v0; SUB v0 v0 #1; CALL 1 v0 v1; ELSE; SLEEP #0; SET v5 v1;"
                + "SELECT; CASESEND #6 v1; CASESEND #7 v1; CASESEND #8 v1; END; END; END;"
                + "FUNC 2; IF v0; SUB v0 v0 #1; CALL 2 v0 v1; ELSE; SLEEP #1; LOOP #1; RECV v2 v1 v3; PRINT v2; END; END; END;"
                + "FUNC 0; END");
        answers.due("clock()", 1, x.clock());
        answers.due("waitsAt(0)", 41, x.waitsAt(0));
        for (int g = 1; g < 12; g++) {
            answers.due("waitsAt(" + g + ")", -3, x.waitsAt(g));
            answers.due("notes(" + g + ")", 3, x.notes(g));
            answers.due("variable(" + g + ", 5)", 12 - g, x.variable(g, 5));
            answers.due("variable(" + g + ", 0)", 0, x.variable(g, 0));
        }
        for (int ch = 1; ch < 8; ch++) {
            answers.due("channel(" + ch + ")", 3, x.channel(ch));
        }
        answers.due("channel(8)", 0, x.channel(8));
    }

    private static void allSleep() {
        Counted x = runs.due(ChannelProgramRunner.EXITED, "0 11 10 9 8 7 6 5 4 3 2 1",
                "FUNC 0; SET v0 #11; LOOP v0; GO 1 v0; SUB v0 v0 #1; END; SLEEP #1; PRINT #0; SLEEP #0; END;"
                + "FUNC 1; SLEEP #1; PRINT v0; END");
        answers.due("clock()", 1, x.clock());
    }

    private static void allSendersClosed() {
        runs.due(ChannelProgramRunner.EXITED, "11 10 9 8 7 6 5 4 3 2 1",
                "FUNC 0; MAKE v1 0; SET v0 #11; LOOP v0; GO 1 v0 v1; SUB v0 v0 #1; END; SLEEP #0; CLOSE v1; SLEEP #0; END;"
                + "FUNC 2; DEFER 2 v0; SEND v1 v0; END; FUNC 1; RECOVER v1; ADD v1 v1 #1; IF v1; ELSE; PRINT v0; END; END");
        runs.due(ChannelProgramRunner.EXITED, "11 10 9 8 7 6 5 4 3 2 1",
                "FUNC 0; MAKE v1 0; SET v0 #11; LOOP v0; GO 1 v0 v1; SUB v0 v0 #1; END; SLEEP #0; CLOSE v1; SLEEP #0; END;"
                + "FUNC 2; RECV v2 v1 v3; PRINT v0; END");
    }

    /** An object's 512 calls, all of them the longest runs. */
    private static void manyCalls() {
        Counted x = Program.ready("FUNC 0; LOOP #1; PRINT #5; SLEEP 2147483647; END; END");
        for (int i = 0; i < 500; i++) {
            x.run(200);
        }
        answers.due("state after 500 runs", ChannelProgramRunner.RUNNING, x.run(0));
        answers.due("printed() after 500 runs", 33333, x.printed());
        answers.due("clock() after 500 runs", 33333 * 2147483641L, x.clock());
    }
}
