/** Promises 6 to 9 and 12: run, printed, output, panicValue, variable, and the STEPS. */
public final class RunTest {
    private static final int RUNNING = ChannelProgramRunner.RUNNING;
    private static final int EXITED = ChannelProgramRunner.EXITED;
    private static final int PANICKED = ChannelProgramRunner.PANICKED;
    private static final int STUCK = ChannelProgramRunner.STUCK;
    private static final int OVERFLOW = ChannelProgramRunner.OVERFLOW;
    private static final Answers answers = new Answers();
    private static final Runs runs = new Runs(answers);

    public static void main(String[] args) {
        steps();
        wrongSteps();
        operands();
        arithmetic();
        flow();
        calls();
        goroutines();
        outputs();
        variables();
        answers.finish();
    }

    /** The number of single steps until the program is no longer RUNNING. */
    private static void dueSteps(int want, String text) {
        Counted x = Program.ready(text);
        int count = 0;
        int state = RUNNING;
        while (state == RUNNING && count < 400) {
            state = x.run(1);
            count++;
        }
        answers.due("steps of " + text, want, count);
    }

    private static void steps() {
        dueSteps(1, "FUNC 0; END");
        dueSteps(2, "FUNC 0; PRINT #1; END");
        dueSteps(2, "FUNC 0; RETURN; PRINT #1; END");
        dueSteps(2, "FUNC 0; IF #0; PRINT #1; END; END");
        dueSteps(3, "FUNC 0; IF #1; PRINT #1; ELSE; PRINT #2; PRINT #3; END; END");
        dueSteps(4, "FUNC 0; IF #0; PRINT #1; ELSE; PRINT #2; PRINT #3; END; END");
        // SET, then LOOP SUB twice, then LOOP once more.
        dueSteps(7, "FUNC 0; SET v0 #2; LOOP v0; SUB v0 v0 #1; END; END");
        dueSteps(3, "FUNC 0; LOOP #1; BREAK; END; END");
        dueSteps(3, "FUNC 0; CALL 1; END; FUNC 0; END");
        dueSteps(3, "FUNC 0; DEFER 1; END; FUNC 0; END");
        dueSteps(4, "FUNC 0; DEFER 1; PANIC #1; END; FUNC 0; END");
        // A SELECT and the case that it does are one step.
        dueSteps(3, "FUNC 0; SELECT; DEFAULT; PRINT #1; END; END");
        dueSteps(2, "FUNC 0; SELECT; DEFAULT; END; END");
        dueSteps(4, "FUNC 0; MAKE v0 1; SELECT; CASERECV v1 v0 v1; PRINT #2; CASESEND v0 #1; PRINT #1; END; END");
        dueSteps(3, "FUNC 0; MAKE v0 1; SELECT; CASESEND v0 #1; CASERECV v1 v0 v1; PRINT #2; END; END");
        // Sleeping is one step; the clock and the way on belong to the same one.
        dueSteps(2, "FUNC 0; SLEEP #5; END");
        dueSteps(2, "FUNC 0; SLEEP #0; END");
        dueSteps(2, "FUNC 0; SELECT; AFTER #5; END; END");
        dueSteps(2, "FUNC 0; SELECT; END; PRINT #1; END");

        Counted x = Program.ready("FUNC 0; PRINT #1; PRINT #2; PRINT #3; END");
        answers.due("run(1)", RUNNING, x.run(1));
        answers.due("printed() after the FUNC", 0, x.printed());
        answers.due("run(2)", RUNNING, x.run(2));
        answers.due("printed() after two more", 2, x.printed());
        answers.due("run(1) to the end", EXITED, x.run(1));
        answers.due("printed() at the end", 3, x.printed());

        Counted y = Program.ready("FUNC 0; LOOP #1; PRINT #1; END; END");
        answers.due("run(200) in a loop", RUNNING, y.run(200));
        answers.due("printed() after 200 steps", 99, y.printed());
        answers.due("run(1) in a loop", RUNNING, y.run(1));
        answers.due("printed() after 201 steps", 100, y.printed());
    }

    private static void wrongSteps() {
        Counted x = Program.ready("FUNC 0; PRINT #1; LOOP #1; END; END");
        int[] wrong = {0, -1, 201, 2147483647, -2147483648};
        for (int steps : wrong) {
            answers.due("run(" + steps + ")", RUNNING, x.run(steps));
            answers.due("printed() after run(" + steps + ")", 0, x.printed());
        }
        answers.due("run(2)", RUNNING, x.run(2));
        answers.due("printed() after two steps", 1, x.printed());

        int[] ends = {EXITED, PANICKED, STUCK, OVERFLOW};
        String[] texts = {"RETURN", "PANIC #9", "SELECT; END", "CALL 0"};
        for (int i = 0; i < ends.length; i++) {
            Counted y = Program.ended("FUNC 0; PRINT #4;" + texts[i] + "; END");
            int printed = y.printed();
            answers.due("state by " + texts[i], ends[i], y.run(200));
            answers.due("state stays by " + texts[i], ends[i], y.run(1));
            answers.due("printed() stays by " + texts[i], printed, y.printed());
            answers.due("panicValue() by " + texts[i], ends[i] == PANICKED ? 9 : 0, y.panicValue());
        }
    }

    private static void operands() {
        runs.due(EXITED, "0 1 2147483641 -1 -2147483648",
                "FUNC 0; PRINT #0; PRINT #1; PRINT 2147483647; PRINT #-1; PRINT -2147483648; END");
        runs.due(EXITED, "7 8 9 10 11 12", "FUNC 0; SET v0 #7; SET v1 #8; SET v2 #9; SET v3 #10; SET v4 #11;"
                + "SET v5 #12; PRINT v0; PRINT v1; PRINT v2; PRINT v3; PRINT v4; PRINT v5; END");
    }

    private static void dueResult(int want, String line) {
        runs.due(EXITED, "" + want, "FUNC 0; SET v5 #3;" + line + "; PRINT v5; END");
    }

    private static void arithmetic() {
        dueResult(9, "SET v5 #9");
        dueResult(3, "SET v5 v5");
        dueResult(5, "ADD v5 v5 #2");
        dueResult(1, "SUB v5 v5 #2");
        dueResult(-1, "SUB v5 #2 v5");
        dueResult(21, "MUL v5 #7 v5");
        dueResult(2, "DIV v5 #8 v5");
        dueResult(-2, "DIV v5 -8 v5");
        dueResult(-2, "DIV v5 #8 -3");
        dueResult(2, "DIV v5 -8 -3");
        dueResult(-2147483648, "DIV v5 -2147483648 -1");
        dueResult(1, "LESS v5 #2 v5");
        dueResult(0, "LESS v5 #3 v5");
        dueResult(0, "LESS v5 #4 v5");
        dueResult(1, "LESS v5 -2147483648 #1");
        dueResult(0, "SAME v5 #2 v5");
        dueResult(1, "SAME v5 #3 v5");
        dueResult(2147483647, "ADD v5 -2147483648 -1");
        dueResult(-2147483648, "SUB v5 -2147483647 #1");
        dueResult(1, "MUL v5 2147483647 2147483647; ADD v5 #0 #1");
        dueResult((2147483647 - 6) * 5, "MUL v5 2147483647 #5");
        Counted x = runs.panic(-3, "3", "FUNC 0; SET v5 #3; PRINT v5; DIV v5 #1 #0; PRINT v5; END");
        answers.due("variable(0, 5) after the panic", 0, x.variable(0, 5));
    }

    private static void flow() {
        runs.due(EXITED, "1 9", "FUNC 0; IF #1; PRINT #1; ELSE; PRINT #2; END; PRINT #9; END");
        runs.due(EXITED, "2 9", "FUNC 0; IF #0; PRINT #1; ELSE; PRINT #2; END; PRINT #9; END");
        runs.due(EXITED, "1 9", "FUNC 0; IF -1; PRINT #1; END; PRINT #9; END");
        runs.due(EXITED, "9", "FUNC 0; IF #0; PRINT #1; END; PRINT #9; END");
        runs.due(EXITED, "9", "FUNC 0; IF #1; ELSE; PRINT #1; END; PRINT #9; END");
        runs.due(EXITED, "3 2 1 9", "FUNC 0; SET v0 #3; LOOP v0; PRINT v0; SUB v0 v0 #1; END; PRINT #9; END");
        runs.due(EXITED, "9", "FUNC 0; LOOP #0; PRINT #1; END; PRINT #9; END");
        runs.due(EXITED, "1 9", "FUNC 0; LOOP #1; PRINT #1; IF #1; BREAK; END; PRINT #2; END; PRINT #9; END");
        runs.due(EXITED, "2 1 2 1 9", "FUNC 0; SET v0 #2; LOOP v0; SUB v0 v0 #1; SET v1 #2; LOOP #1; PRINT v1;"
                + "SUB v1 v1 #1; SAME v2 v1 #0; IF v2; BREAK; END; END; END; PRINT #9; END");
        runs.due(EXITED, "1 9", "FUNC 0; LOOP #1; SELECT; DEFAULT; PRINT #1; BREAK; END; PRINT #2; END; PRINT #9; END");
        runs.due(EXITED, "1", "FUNC 0; LOOP #1; PRINT #1; RETURN; END; PRINT #9; END");
    }

    private static void calls() {
        runs.due(EXITED, "1 5 6 2", "FUNC 0; PRINT #1; CALL 1 #5 #6; PRINT #2; END; FUNC 2; PRINT v0; PRINT v1; END");
        // Only as many OPERANDs as there are parameters are given.
        Counted x = Program.ready("FUNC 0; CALL 1 #5 #6; END; FUNC 1; SLEEP #0; END");
        x.run(3);
        answers.due("variable 0 of the called one", 5, x.variable(0, 0));
        answers.due("variable 1 of the called one", 0, x.variable(0, 1));
        Counted y = Program.ready("FUNC 0; CALL 1 #5 #6; END; FUNC 0; SLEEP #0; END");
        y.run(3);
        answers.due("variable 0 without parameters", 0, y.variable(0, 0));
        // Variables are an activation's own, and new each time.
        runs.due(EXITED, "7 0 7 0 7", "FUNC 0; SET v0 #7; PRINT v0; CALL 1; PRINT v0; CALL 1; PRINT v0; END;"
                + "FUNC 0; IF #0; SET v1 #1; END; RECOVER v0; PRINT v0; SET v0 #3; END");
        runs.due(EXITED, "0 0", "FUNC 2; PRINT v0; PRINT v1; END");
        // The constant 0 is not the variable of another activation.
        runs.due(EXITED, "0", "FUNC 0; CALL 1 #5; PRINT #0; END; FUNC 1; END");
        Counted w = Program.ready("FUNC 0; CALL 1; CALL 2; END; FUNC 0; SET v0 #1; SET v3 #2; SET v5 #3; END; FUNC 0; SLEEP #1; END");
        w.run(7);
        for (int v = 0; v < 6; v++) {
            answers.due("variable(0, " + v + ") of a new activation", 0, w.variable(0, v));
        }
        runs.due(OVERFLOW, "1 1 1 1", "FUNC 0; PRINT #1; CALL 0; END");
        runs.due(EXITED, "2 1 0 8 8 9", "FUNC 0; CALL 1 #2; PRINT #9; END;"
                + "FUNC 1; PRINT v0; IF v0; SUB v0 v0 #1; CALL 1 v0; PRINT #8; END; END");
        Counted z = runs.due(OVERFLOW, "3 2 1", "FUNC 0; CALL 1 #3; END;"
                + "FUNC 1; PRINT v0; SUB v1 v0 #1; CALL 1 v1; PRINT #8; END");
        answers.due("waitsAt(0) after OVERFLOW", -3, z.waitsAt(0));
        answers.due("variable(0, 0) after OVERFLOW", 1, z.variable(0, 0));
        answers.due("notes(0) after OVERFLOW", 0, z.notes(0));
    }

    private static void goroutines() {
        // The running one goes on until it ends or waits; the others follow in the order of their start.
        runs.due(EXITED, "1 2 5 6 3", "FUNC 0; PRINT #1; GO 1 #5; GO 1 #6; PRINT #2; SLEEP #0; PRINT #3; END;"
                + "FUNC 1; PRINT v0; END");
        // The others just stop when goroutine 0 ends.
        Counted x = runs.due(EXITED, "1", "FUNC 0; GO 1 #5; PRINT #1; END; FUNC 1; PRINT v0; END");
        answers.due("waitsAt(0) after EXITED", -2, x.waitsAt(0));
        answers.due("waitsAt(1) after EXITED", -3, x.waitsAt(1));
        answers.due("waitsAt(2) after EXITED", -1, x.waitsAt(2));
        answers.due("variable(1, 0) after EXITED", 5, x.variable(1, 0));
        // Eleven can be started beside goroutine 0, however many of them have ended.
        String starts = "FUNC 0; SET v0 #0; LOOP #1; ADD v0 v0 #1; PRINT v0; GO 1; ";
        Counted y = runs.panic(-2, "1 2 3 4 5 6 7 8 9 10 11 12", starts + "END; END; FUNC 0; END");
        answers.due("waitsAt(11)", -3, y.waitsAt(11));
        answers.due("waitsAt(12)", -1, y.waitsAt(12));
        Counted z = runs.panic(-2, "1 2 3 4 5 6 7 8 9 10 11 12",
                starts + "SLEEP #0; END; END; FUNC 0; END");
        answers.due("waitsAt(11) that ended", -2, z.waitsAt(11));
        answers.due("waitsAt(12) of none", -1, z.waitsAt(12));
        // A goroutine's panic ends the program.
        Counted p = runs.panic(6, "", "FUNC 0; GO 1; SELECT; END; END; FUNC 0; PANIC #6; END");
        answers.due("waitsAt(0) after a panic of 1", 2, p.waitsAt(0));
        answers.due("waitsAt(1) after its panic", -2, p.waitsAt(1));
        answers.due("notes(1) after its panic", -1, p.notes(1));
        // Each goroutine may have four activations.
        runs.due(EXITED, "3 3", "FUNC 0; GO 1 #3; CALL 1 #2; SLEEP #0; END;"
                + "FUNC 1; IF v0; SUB v0 v0 #1; CALL 1 v0; ELSE; PRINT #3; END; END");
        // In a stuck program, the ended ones are told apart from the waiting ones.
        Counted s = runs.due(STUCK, "", "FUNC 0; GO 1; GO 2; SELECT; END; END; FUNC 0; END; FUNC 0; RECV v0 #0 v0; END");
        answers.due("waitsAt(0) when stuck", 3, s.waitsAt(0));
        answers.due("waitsAt(1) when stuck", -2, s.waitsAt(1));
        answers.due("waitsAt(2) when stuck", 9, s.waitsAt(2));
    }

    private static void outputs() {
        Counted x = Program.ready("FUNC 0; SET v0 #0; LOOP #1; ADD v0 v0 #1; PRINT v0; END; END");
        x.run(2 + 3 * 31);
        answers.due("printed() of 31", 31, x.printed());
        answers.due("output(30) of 31", 1, x.output(30));
        answers.due("output(31) of 31", 0, x.output(31));
        x.run(3 * 9);
        answers.due("printed() of 40", 40, x.printed());
        for (int k = 0; k < 32; k++) {
            answers.due("output(" + k + ") of 40", 40 - k, x.output(k));
        }
        int[] wrong = {-1, 32, 33, 39, 2147483647, -2147483648};
        for (int k : wrong) {
            answers.due("output(" + k + ") of 40", 0, x.output(k));
        }
        x.check();
        x.run(5);
        answers.due("output(0) of one in a second run", 1, x.output(0));
        answers.due("output(1) of one in a second run", 0, x.output(1));
        x.run(3 * 39);
        for (int i = 0; i < 60; i++) {
            x.run(200);
        }
        answers.due("printed() of many", 40 + 4000, x.printed());
        answers.due("output(31) of many", 4040 - 31, x.output(31));
    }

    private static void variables() {
        Counted x = Program.ready("FUNC 0; SET v5 #4; CALL 1 #8; SET v5 #6; SLEEP #1; END; FUNC 1; SET v5 #5; SLEEP #1; END");
        x.run(2);
        answers.due("variable(0, 5) of the caller", 4, x.variable(0, 5));
        x.run(3);
        answers.due("variable(0, 5) of the called one", 5, x.variable(0, 5));
        answers.due("variable(0, 0) of the called one", 8, x.variable(0, 0));
        x.run(1);
        answers.due("variable(0, 5) of the caller again", 4, x.variable(0, 5));
        x.run(1);
        answers.due("variable(0, 5) after SET", 6, x.variable(0, 5));
        int[] wrong = {-1, 6, 7, 2147483647, -2147483648};
        for (int v : wrong) {
            answers.due("variable(0, " + v + ")", 0, x.variable(0, v));
            answers.due("variable(" + v + ", 5)", 0, x.variable(v, 5));
            answers.due("waitsAt(" + v + ")", -1, x.waitsAt(v));
            answers.due("notes(" + v + ")", -1, x.notes(v));
            answers.due("panicking(" + v + ")", 0, x.panicking(v));
            answers.due("channel(" + v + ")", -1, x.channel(v));
        }
        answers.due("variable(1, 5) of none", 0, x.variable(1, 5));
        x.run(1);
        answers.due("variable(0, 5) of an ended one", 0, x.variable(0, 5));
    }
}
