/** Promises 11 and 13: waitsAt and channel, with MAKE, SEND, RECV and CLOSE. */
public final class ChannelTest {
    private static final int EXITED = ChannelProgramRunner.EXITED;
    private static final int STUCK = ChannelProgramRunner.STUCK;
    private static final Answers answers = new Answers();
    private static final Runs runs = new Runs(answers);

    public static void main(String[] args) {
        makes();
        buffers();
        handsOver();
        waitsInOrder();
        noChannel();
        closes();
        closeWakes();
        closeTellsReceivers();
        readyAndWaiting();
        answers.finish();
    }

    private static void makes() {
        Counted x = Program.ready("FUNC 0; LOOP #1; MAKE v0 3; END; END");
        x.run(1);
        answers.due("channel(1) before MAKE", -1, x.channel(1));
        for (int n = 1; n <= 8; n++) {
            x.run(2);
            answers.due("the number of channel " + n, n, x.variable(0, 0));
            answers.due("channel(" + n + ")", 0, x.channel(n));
            answers.due("channel(" + (n + 1) + ")", -1, x.channel(n + 1));
        }
        answers.due("run(2) for a ninth channel", ChannelProgramRunner.PANICKED, x.run(2));
        answers.due("panicValue()", -4, x.panicValue());
        answers.due("channel(8)", 0, x.channel(8));
        answers.due("channel(9)", -1, x.channel(9));
        answers.due("channel(0)", -1, x.channel(0));
        answers.due("channel(-1)", -1, x.channel(-1));
        // A MAKE that panics sets nothing.
        runs.due(EXITED, "8 7 -4", "FUNC 0; CALL 1; END; FUNC 0; DEFER 2; SET v1 #0; LOOP #1; LESS v2 v1 #8; IF v2;"
                + "ADD v1 v1 #1; MAKE v0 0; ELSE; PRINT v1; SET v0 #7; PRINT v0; MAKE v0 0; END; END; END;"
                + "FUNC 0; RECOVER v0; PRINT v0; END");
    }

    private static void buffers() {
        for (int capacity = 0; capacity <= 3; capacity++) {
            Counted x = Program.ended("FUNC 0; MAKE v0 " + capacity + "; LOOP #1; SEND v0 #9; END; END");
            answers.due("channel(1) full", capacity, x.channel(1));
            answers.due("waitsAt(0)", 3, x.waitsAt(0));
            answers.due("state", STUCK, x.run(1));
        }
        runs.due(EXITED, "4 1 5 1 6 1", "FUNC 0; MAKE v0 3; SEND v0 #4; SEND v0 #5; SEND v0 #6; SET v3 #3; LOOP v3;"
                + "RECV v1 v0 v2; PRINT v1; PRINT v2; SUB v3 v3 #1; END; END");
        // Two channels keep their values apart.
        runs.due(EXITED, "2 4 1 3", "FUNC 0; MAKE v0 3; MAKE v1 3; SEND v0 #1; SEND v1 #2; SEND v0 #3; SEND v1 #4;"
                + "RECV v2 v1 v3; PRINT v2; RECV v2 v1 v3; PRINT v2; RECV v2 v0 v3; PRINT v2; RECV v2 v0 v3; PRINT v2; END");
        // VAR c is set after VAR a.
        runs.due(EXITED, "1", "FUNC 0; MAKE v0 1; SEND v0 #4; RECV v1 v0 v1; PRINT v1; END");
        // The channel may be the VAR that receives.
        runs.due(EXITED, "4 1", "FUNC 0; MAKE v0 1; SEND v0 #4; RECV v0 v0 v1; PRINT v0; PRINT v1; END");
        // A receiver that finds values lets the longest waiting sender add its own, behind the others.
        Counted x = runs.due(STUCK, "1 2 3 4", "FUNC 0; MAKE v0 2; GO 1 v0; SLEEP #0; LOOP #1; RECV v1 v0 v2; PRINT v1; END; END;"
                + "FUNC 1; SEND v0 #1; SEND v0 #2; SEND v0 #3; SEND v0 #4; END");
        answers.due("channel(1) at the end", 0, x.channel(1));
        Counted y = Program.ready("FUNC 0; MAKE v0 2; GO 1 v0; SLEEP #0; RECV v1 v0 v2; SLEEP #1; END;"
                + "FUNC 1; SEND v0 #1; SEND v0 #2; SEND v0 #3; END");
        y.run(4 + 4);
        answers.due("waitsAt(1) at its third SEND", 10, y.waitsAt(1));
        answers.due("channel(1) when full", 2, y.channel(1));
        y.run(1);
        answers.due("channel(1) after a RECV", 2, y.channel(1));
        answers.due("waitsAt(1) after a RECV", -3, y.waitsAt(1));
    }

    private static void handsOver() {
        // Receiver first: it gets the value, the sender goes on.
        runs.due(EXITED, "8 5 1", "FUNC 0; MAKE v0 0; GO 1 v0; SLEEP #0; SEND v0 #5; PRINT #8; SLEEP #0; END;"
                + "FUNC 1; RECV v1 v0 v2; PRINT v1; PRINT v2; END");
        // Sender first: it waits until it is received from.
        runs.due(EXITED, "5 1 8", "FUNC 0; MAKE v0 0; GO 1 v0; SLEEP #0; RECV v1 v0 v2; PRINT v1; PRINT v2; SLEEP #0; END;"
                + "FUNC 1; SEND v0 #5; PRINT #8; END");
        // A waiting receiver gets the value even if there would be room in the channel.
        Counted x = Program.ready("FUNC 0; MAKE v0 3; GO 1 v0; SLEEP #0; SEND v0 #5; SLEEP #1; END;"
                + "FUNC 1; RECV v1 v0 v2; PRINT v1; END");
        x.run(6);
        answers.due("waitsAt(1) before the SEND", 8, x.waitsAt(1));
        x.run(1);
        answers.due("channel(1) after the SEND", 0, x.channel(1));
        answers.due("waitsAt(1) after the SEND", -3, x.waitsAt(1));
        answers.due("variable(1, 1) at once", 5, x.variable(1, 1));
        answers.due("variable(1, 2) at once", 1, x.variable(1, 2));
    }

    private static void waitsInOrder() {
        // Goroutine 3 begins to wait first, then 1, then 2.
        String order = "FUNC 0; MAKE v0 0; GO 1 v0 #2; GO 1 v0 #3; GO 1 v0 #1; SLEEP #5;";
        runs.due(EXITED, "1 71 2 72 3 73", order + "SEND v0 #71; SEND v0 #72; SEND v0 #73; SLEEP #0; END;"
                + "FUNC 2; SLEEP v1; RECV v2 v0 v3; PRINT v1; PRINT v2; END");
        runs.due(EXITED, "1 2 3 101 102 103", order + "RECV v1 v0 v2; PRINT v1; RECV v1 v0 v2; PRINT v1; RECV v1 v0 v2; PRINT v1; SLEEP #0; END;"
                + "FUNC 2; SLEEP v1; SEND v0 v1; ADD v1 v1 #100; PRINT v1; END");
        runs.due(EXITED, "1 0 0 2 0 0 3 0 0", order + "CLOSE v0; SLEEP #0; END;"
                + "FUNC 2; SLEEP v1; RECV v2 v0 v3; PRINT v1; PRINT v2; PRINT v3; END");
        // The channel's number, not the place in it, tells who is served.
        runs.due(EXITED, "2 1", "FUNC 0; MAKE v0 0; MAKE v1 0; GO 1 v0 #1; GO 1 v1 #2; SLEEP #0; SEND v1 #5; SEND v0 #5; SLEEP #0; END;"
                + "FUNC 2; RECV v2 v0 v3; PRINT v1; END");
    }

    private static void noChannel() {
        String[] wrong = {"#0", "#2", "#9", "-1", "-2147483648", "2147483647"};
        for (String ch : wrong) {
            Counted x = runs.due(STUCK, "", "FUNC 0; MAKE v0 3; SEND " + ch + " #1; PRINT #1; END");
            answers.due("waitsAt(0) at SEND " + ch, 2, x.waitsAt(0));
            Counted y = runs.due(STUCK, "", "FUNC 0; MAKE v0 3; RECV v1 " + ch + " v1; PRINT #1; END");
            answers.due("waitsAt(0) at RECV " + ch, 2, y.waitsAt(0));
            runs.panic(-1, "", "FUNC 0; MAKE v0 3; CLOSE " + ch + "; PRINT #1; END");
        }
        runs.due(EXITED, "1", "FUNC 0; MAKE v0 3; SEND #1 #1; PRINT #1; END");
        // Two that wait with the same wrong number do not meet.
        runs.due(STUCK, "", "FUNC 0; GO 1; RECV v0 #3 v1; END; FUNC 0; SEND #3 #1; END");
        // Who began to wait on a number before there was such a channel waits for ever.
        Counted x = runs.due(STUCK, "", "FUNC 0; GO 1; SLEEP #0; MAKE v0 0; SEND v0 #4; END; FUNC 0; RECV v0 #1 v1; PRINT v0; END");
        answers.due("waitsAt(0)", 4, x.waitsAt(0));
        answers.due("waitsAt(1)", 7, x.waitsAt(1));
    }

    private static void closes() {
        runs.due(EXITED, "4 1 5 1 0 0 0 0", "FUNC 0; MAKE v0 3; SEND v0 #4; SEND v0 #5; CLOSE v0; SET v3 #4; LOOP v3;"
                + "SET v1 #9; SET v2 #9; RECV v1 v0 v2; PRINT v1; PRINT v2; SUB v3 v3 #1; END; END");
        runs.panic(-1, "", "FUNC 0; MAKE v0 3; CLOSE v0; SEND v0 #1; PRINT #1; END");
        runs.panic(-1, "", "FUNC 0; MAKE v0 3; CLOSE v0; CLOSE v0; PRINT #1; END");
        Counted x = Program.ready("FUNC 0; MAKE v0 3; SEND v0 #1; SEND v0 #1; CLOSE v0; RECV v1 v0 v2; SLEEP #1; END");
        x.run(4);
        answers.due("channel(1) with two", 2, x.channel(1));
        x.run(1);
        answers.due("channel(1) closed with two", 10, x.channel(1));
        x.run(1);
        answers.due("channel(1) closed with one", 9, x.channel(1));
    }

    private static void closeWakes() {
        // Senders stop waiting at the CLOSE, and panic one after the other as they come to run.
        Counted x = Program.ready("FUNC 0; MAKE v0 0; GO 1 v0; GO 1 v0; SLEEP #0; CLOSE v0; PRINT #8; SLEEP #0; END;"
                + "FUNC 1; DEFER 2; SEND v0 #1; PRINT #9; END; FUNC 0; RECOVER v0; PRINT v0; END");
        x.run(5 + 6);
        answers.due("waitsAt(1)", 11, x.waitsAt(1));
        answers.due("waitsAt(2)", 11, x.waitsAt(2));
        x.run(1);
        answers.due("waitsAt(1) after CLOSE", -3, x.waitsAt(1));
        answers.due("waitsAt(2) after CLOSE", -3, x.waitsAt(2));
        answers.due("panicking(1) before it runs", 0, x.panicking(1));
        answers.due("channel(1)", 8, x.channel(1));
        x.run(2);
        answers.due("panicking(1) when it runs", 1, x.panicking(1));
        answers.due("panicking(2) before it runs", 0, x.panicking(2));
        x.run(200);
        answers.due("state", EXITED, x.run(1));
        answers.due("outputs", true, Program.outputs(x).equals("8 -1 -1"));

        // Not recovered: the program ends when the sender becomes the running one, not at the CLOSE.
        Counted y = Program.ready("FUNC 0; MAKE v0 0; GO 1 v0; SLEEP #0; CLOSE v0; PRINT #8; SLEEP #3; END; FUNC 1; SEND v0 #1; END");
        y.run(6 + 1);
        answers.due("state after CLOSE and PRINT", ChannelProgramRunner.RUNNING, y.run(1));
        answers.due("state after SLEEP", ChannelProgramRunner.PANICKED, y.run(1));
        answers.due("panicValue()", -1, y.panicValue());
        answers.due("printed()", 1, y.printed());
        answers.due("waitsAt(0)", 6, y.waitsAt(0));
        answers.due("waitsAt(1)", -2, y.waitsAt(1));
        answers.due("clock()", 0, y.clock());
    }

    private static void closeTellsReceivers() {
        // Both VARs become 0 at once, whatever they were.
        Counted x = Program.ready("FUNC 0; MAKE v0 0; GO 1 v0; SLEEP #0; CLOSE v0; SLEEP #1; END; FUNC 1; SET v1 #8; SET v2 #9; RECV v1 v0 v2; END");
        x.run(8);
        answers.due("variable(1, 1) when waiting", 8, x.variable(1, 1));
        answers.due("variable(1, 2) when waiting", 9, x.variable(1, 2));
        x.run(1);
        answers.due("variable(1, 1) after CLOSE", 0, x.variable(1, 1));
        answers.due("variable(1, 2) after CLOSE", 0, x.variable(1, 2));
        answers.due("waitsAt(1) after CLOSE", -3, x.waitsAt(1));
        // The panic of a CLOSE comes once.
        runs.due(EXITED, "-1 7 8", "FUNC 0; MAKE v0 0; GO 1 v0; SLEEP #0; CLOSE v0; SLEEP #2; END;"
                + "FUNC 1; CALL 2 v0; PRINT #7; SLEEP #0; PRINT #8; END;"
                + "FUNC 1; DEFER 3; SEND v0 #1; END; FUNC 0; RECOVER v0; PRINT v0; END");
    }

    private static void readyAndWaiting() {
        // A served goroutine moves on only when it becomes the running one, and within that same step.
        Counted x = Program.ready("FUNC 0; MAKE v0 0; GO 1 v0; RECV v1 v0 v2; END; FUNC 1; SEND v0 #5; PRINT #1; SLEEP #0; PRINT #2; END");
        x.run(6);
        answers.due("waitsAt(0) when served", -3, x.waitsAt(0));
        answers.due("variable(0, 1) when served", 5, x.variable(0, 1));
        answers.due("run(1) for PRINT", ChannelProgramRunner.RUNNING, x.run(1));
        answers.due("run(1) for SLEEP", EXITED, x.run(1));
        answers.due("waitsAt(1) when 0 ended", -3, x.waitsAt(1));
        answers.due("printed()", 1, x.printed());
        // The same for one that only let the others run.
        Counted y = Program.ready("FUNC 0; GO 1; SLEEP #0; END; FUNC 0; PRINT #1; PRINT #2; END");
        answers.due("run(5)", ChannelProgramRunner.RUNNING, y.run(5));
        answers.due("notes(0) of one that has to leave", 0, y.notes(0));
        answers.due("run(1) when 1 ends", EXITED, y.run(1));
        answers.due("printed()", 2, y.printed());
    }
}
