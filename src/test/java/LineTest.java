/** Promises 2 and 3: line and clear. */
public final class LineTest {
    private static final int FAR = 2147483647;
    private static final int LOW = -2147483648;
    private static final Answers answers = new Answers();

    public static void main(String[] args) {
        refusesWrongKinds();
        refusesWrongVariables();
        refusesWrongNumbers();
        looksOnlyAtWhatIsNamed();
        takesSixtyLines();
        endsWhatWasRun();
        clears();
        answers.finish();
    }

    private static boolean accepted(int kind, int a, int b, int c) {
        return new Counted().line(kind, a, b, c);
    }

    private static void due(boolean want, int kind, int a, int b, int c) {
        answers.due("line(" + kind + ", " + a + ", " + b + ", " + c + ")", want, accepted(kind, a, b, c));
    }

    private static void refusesWrongKinds() {
        due(false, -1, 0, 0, 0);
        due(false, 30, 0, 0, 0);
        due(false, FAR, 0, 0, 0);
        due(false, LOW, 0, 0, 0);
        for (int kind = 0; kind < 30; kind++) {
            due(true, kind, 0, 0, 0);
        }
    }

    private static void refusesWrongVariables() {
        int[] setsA = {8, 11, 13, 19, 21, 22, 23, 24, 25, 26, 27};
        for (int kind : setsA) {
            due(true, kind, 5, 0, 0);
            due(false, kind, 6, 0, 0);
            due(false, kind, -1, 0, 0);
            due(false, kind, FAR, 0, 0);
        }
        int[] setsC = {8, 11};
        for (int kind : setsC) {
            due(true, kind, 0, 0, 5);
            due(false, kind, 0, 0, 6);
            due(false, kind, 0, 0, -1);
        }
    }

    private static void refusesWrongNumbers() {
        due(true, 0, 2, 0, 0);
        due(false, 0, 3, 0, 0);
        due(false, 0, -1, 0, 0);
        due(true, 13, 0, 3, 0);
        due(false, 13, 0, 4, 0);
        due(false, 13, 0, -1, 0);
        for (int kind = 14; kind <= 16; kind++) {
            due(true, kind, 29, FAR, LOW);
            due(false, kind, 30, 0, 0);
            due(false, kind, -1, 0, 0);
        }
    }

    private static void looksOnlyAtWhatIsNamed() {
        due(true, 0, 0, -7, 99);
        due(true, 13, 0, 0, 99);
        due(true, 19, 0, -7, 99);
        due(true, 21, 0, FAR, 99);
        due(true, 8, 0, LOW, 0);
        due(true, 11, 0, FAR, 0);
        int[] allOperands = {1, 2, 3, 4, 5, 6, 7, 9, 10, 12, 17, 18, 20, 28, 29};
        for (int kind : allOperands) {
            due(true, kind, FAR, LOW, -1);
        }
        for (int kind = 22; kind <= 27; kind++) {
            due(true, kind, 0, FAR, LOW);
        }
    }

    private static void takesSixtyLines() {
        Counted x = Program.fed("FUNC 0");
        for (int i = 1; i < 59; i++) {
            answers.due("line " + i, true, x.line(20, i, 0, 0));
        }
        answers.due("line 59", true, x.line(1, 0, 0, 0));
        answers.due("line 60", false, x.line(1, 0, 0, 0));
        answers.due("clear() of sixty", 60, x.clear());
        answers.due("a line after clear()", true, x.line(0, 0, 0, 0));
        answers.due("clear() of one", 1, x.clear());
    }

    private static Counted stuckAfterMuch() {
        return Program.ended("FUNC 0; MAKE v0 1; SEND v0 #4; PRINT #3; SLEEP #9; RECV v1 #0 v2; END");
    }

    private static void dueIdle(String what, Counted x) {
        answers.due(what + ": printed()", 0, x.printed());
        answers.due(what + ": output(0)", 0, x.output(0));
        answers.due(what + ": panicValue()", 0, x.panicValue());
        answers.due(what + ": clock()", 0, x.clock());
        answers.due(what + ": waitsAt(0)", -1, x.waitsAt(0));
        answers.due(what + ": variable(0, 0)", 0, x.variable(0, 0));
        answers.due(what + ": channel(1)", -1, x.channel(1));
        answers.due(what + ": notes(0)", -1, x.notes(0));
        answers.due(what + ": panicking(0)", 0, x.panicking(0));
        answers.due(what + ": run(1)", ChannelProgramRunner.IDLE, x.run(1));
    }

    private static void dueStuck(String what, Counted x) {
        answers.due(what + ": printed()", 1, x.printed());
        answers.due(what + ": output(0)", 3, x.output(0));
        answers.due(what + ": clock()", 9, x.clock());
        answers.due(what + ": waitsAt(0)", 5, x.waitsAt(0));
        answers.due(what + ": variable(0, 0)", 1, x.variable(0, 0));
        answers.due(what + ": channel(1)", 1, x.channel(1));
        answers.due(what + ": notes(0)", 0, x.notes(0));
        answers.due(what + ": run(1)", ChannelProgramRunner.STUCK, x.run(1));
    }

    private static void endsWhatWasRun() {
        Counted x = stuckAfterMuch();
        dueStuck("before", x);
        answers.due("a refused line", false, x.line(0, 3, 0, 0));
        dueStuck("after a refused line", x);
        answers.due("an accepted line", true, x.line(0, 0, 0, 0));
        dueIdle("after an accepted line", x);

        Counted y = Program.ended("FUNC 0; PANIC #8; END");
        answers.due("panicValue()", 8, y.panicValue());
        y.line(0, 0, 0, 0);
        dueIdle("a panic, then a line", y);

        Counted z = Program.ready("FUNC 0; DEFER 1; PANIC #8; END; FUNC 0; SLEEP #4; END");
        z.run(4);
        answers.due("panicking(0)", 1, z.panicking(0));
        z.line(0, 0, 0, 0);
        dueIdle("panicking, then a line", z);
    }

    private static void clears() {
        Counted x = stuckAfterMuch();
        answers.due("clear()", 7, x.clear());
        dueIdle("after clear()", x);
        answers.due("clear() again", 0, x.clear());
        answers.due("check() after clear()", ChannelProgramRunner.FORM, x.check());
        answers.due("badLine() after clear()", 0, x.badLine());
        Program.feed(x, "FUNC 0; PRINT #1; END");
        answers.due("check() of a new program", ChannelProgramRunner.OK, x.check());
        answers.due("run() of a new program", ChannelProgramRunner.EXITED, x.run(200));
        answers.due("clear() of a new program", 3, x.clear());
    }
}
