/** Promises 1 to 15. */
final class PromiseSentences extends Sentences {
    /** One program for each state, and how many steps bring it there. */
    private static final String[] TEXTS = {
        "FUNC 0; MAKE v0 1; PRINT #3; GO 1; SLEEP #4; END; FUNC 0; LOOP #1; END; END",
        "FUNC 0; MAKE v0 1; PRINT #3; GO 1; SLEEP #4; END; FUNC 0; END",
        "FUNC 0; MAKE v0 1; PRINT #3; GO 1; SLEEP #4; PANIC #7; END; FUNC 0; END",
        "FUNC 0; MAKE v0 1; PRINT #3; GO 1; SLEEP #4; SELECT; END; END; FUNC 0; END",
        "FUNC 0; MAKE v0 1; PRINT #3; GO 1; SLEEP #4; CALL 2; END; FUNC 0; END; FUNC 0; CALL 2; END"};
    private static final int[] STATES = {RUNNING, EXITED, PANICKED, STUCK, OVERFLOW};
    /** Calls of line that are refused whatever the object holds. */
    private static final int[][] REFUSED = {{-1, 0, 0, 0}, {30, 0, 0, 0}, {LEAST, 0, 0, 0}, {MOST, 0, 0, 0}, {8, -1, 0, 0}, {8, 6, 0, 0},
        {8, 0, 0, -1}, {8, 0, 0, 6}, {11, -1, 0, 0}, {11, 6, 0, 0}, {11, 0, 0, -1}, {11, 0, 0, 6}, {13, -1, 0, 0}, {13, 6, 0, 0}, {19, -1, 0, 0},
        {19, 6, 0, 0}, {21, -1, 0, 0}, {21, 6, 0, 0}, {22, 6, 0, 0}, {23, 6, 0, 0}, {24, 6, 0, 0}, {25, 6, 0, 0}, {26, 6, 0, 0}, {27, -1, 0, 0},
        {27, 6, 0, 0}, {0, -1, 0, 0}, {0, 3, 0, 0}, {13, 0, -1, 0}, {13, 0, 4, 0}, {14, -1, 0, 0}, {14, 30, 0, 0}, {15, -1, 0, 0}, {15, 30, 0, 0},
        {16, -1, 0, 0}, {16, 30, 0, 0}};

    @Override
    void all() {
        uses();
        newObject();
        addsLine();
        sixtyLines();
        refuses();
        acceptedLineEnds();
        clears();
        clearEnds();
        checksForm();
        checksCallee();
        checksUnset();
        readyAfterOk();
        idleOtherwise();
        badLine();
        runs();
        runRefused();
        printed();
        output();
        panicValue();
        clock();
        waitsAt();
        waitsAtTheEnd();
        variable();
        channel();
        notes();
        panicking();
    }

    private static Counted inState(int i) {
        Counted x = Program.ready(TEXTS[i]);
        x.run(200);
        look(x, "state=" + STATES[i] + " printed=1 output(0)=3 clock=" + (i == 0 ? 0 : 4) + " channel(1)=0 waitsAt(1)=" + (i == 0 ? -3 : -2)
                + " panicValue=" + (i == 2 ? 7 : 0));
        return x;
    }

    private static void uses() {
        about("An object is used for at most 512 calls after it has been made;");
        // The last of 512 calls is answered as any other.
        Counted x = Program.ready("FUNC 0; LOOP #1; PRINT #5; END; END");
        for (int i = 0; i < 505; i++) {
            x.run(200);
        }
        due("printed() as call 512", 50499, x.printed());
        Counted y = new Counted();
        for (int i = 1; i <= 511; i++) {
            due("line() as call " + i, i <= 60, y.line(20, 6, 0, 0));
        }
        due("clear() as call 512", 60, y.clear());
        Counted z = Program.fed("FUNC 0; SLEEP 2147483647; END");
        for (int i = 0; i < 254; i++) {
            due("check() again", OK, z.check());
            due("run(2) again", EXITED, z.run(2));
        }
        due("clock() as call 512", 2147483641L, z.clock());
    }

    private static void newObject() {
        about("`ChannelProgramRunner()`: No lines, nothing checked, IDLE.");
        Counted x = new Counted();
        idle(x);
        look(x, "badLine=-1");
        due("run(1)", IDLE, x.run(1));
        due("run(200)", IDLE, x.run(200));
        due("clear()", 0, x.clear());
        idle(x);
        look(x, "badLine=-1");
        due("check()", FORM, new Counted().check());
        // Two objects have nothing to do with each other.
        Counted y = Program.ended("FUNC 0; PRINT #1; END");
        idle(new Counted());
        look(y, "state=2 printed=1");
    }

    private static void addsLine() {
        about("`boolean line(int kind, int a, int b, int c)`: Adds a line.");
        Counted x = new Counted();
        due("line(0, 0, 0, 0)", true, x.line(0, 0, 0, 0));
        due("line(20, 13, 0, 0)", true, x.line(20, 13, 0, 0));
        due("line(20, 14, 0, 0)", true, x.line(20, 14, 0, 0));
        due("line(1, 0, 0, 0)", true, x.line(1, 0, 0, 0));
        due("check()", OK, x.check());
        due("run(3)", EXITED, x.run(3));
        look(x, "printed=2 output(1)=7 output(0)=8");
        due("clear()", 4, x.clear());
        for (int kind = 0; kind < 30; kind++) {
            line(true, kind, 0, 0, 0);
        }
    }

    private static void sixtyLines() {
        about("Refused (false, nothing changes) if there are 60 lines,");
        Counted x = Program.fed("FUNC 0;" + "PRINT #1;".repeat(57));
        due("line 58 as the 59th", true, x.line(20, 8, 0, 0));
        due("line 59 as the 60th", true, x.line(1, 0, 0, 0));
        for (int kind = 0; kind < 30; kind++) {
            due("line(" + kind + ", 0, 0, 0) as the 61st", false, x.line(kind, 0, 0, 0));
        }
        due("check() of sixty", OK, x.check());
        due("a line while it runs", false, x.line(20, 6, 0, 0));
        look(x, "state=1");
        due("run(58) of sixty", RUNNING, x.run(58));
        due("a line in the middle", false, x.line(20, 6, 0, 0));
        look(x, "state=1 printed=57 output(0)=1");
        due("run(1) to the end", EXITED, x.run(1));
        due("a line at the end", false, x.line(20, 6, 0, 0));
        look(x, "state=2 printed=58 output(0)=2 badLine=-1");
        due("clear() of sixty", 60, x.clear());
        due("a line after clear()", true, x.line(0, 0, 0, 0));
        // The last line is looked at as any other.
        check(FORM, 59, "FUNC 0;" + "PRINT #1;".repeat(57) + "END; END");
        check(UNSET, 58, "FUNC 0;" + "PRINT #1;".repeat(57) + "PRINT v0; END");
        check(CALLEE, 58, "FUNC 0;" + "PRINT #1;".repeat(57) + "CALL 1; END");
        look(Program.ended("FUNC 0;" + "PRINT #1;".repeat(56) + "SELECT; END; END"), "state=4 waitsAt(0)=57");
    }

    private static void refuses() {
        about("kind is outside 0..29, a VAR is outside 0..5, or a FUNC's a is outside 0..2, a MAKE's b outside 0..3, a GO's, CALL's or DEFER's a outside 0..29.");
        for (int[] r : REFUSED) {
            line(false, r[0], r[1], r[2], r[3]);
        }
        line(true, 0, 0, 0, 0);
        line(true, 29, 0, 0, 0);
        // Nothing changes: neither the lines, nor what was checked, nor what runs.
        for (int i = 0; i < TEXTS.length; i++) {
            Counted x = inState(i);
            refuseAll(x);
            inStateStill(x, i);
            due("clear() after refused lines", TEXTS[i].replaceAll("[^;]", "").length() + 1, x.clear());
        }
        for (int steps = 0; steps < 12; steps++) {
            int n = steps;
            same("refused after " + n, 20, () -> refuseAll(after(n, TEXTS[3])), () -> after(n, TEXTS[3]));
        }
        Counted bad = Program.fed("FUNC 0; PRINT v0; END");
        due("check()", UNSET, bad.check());
        refuseAll(bad);
        look(bad, "badLine=1 state=0");
        due("check() again", UNSET, bad.check());
        Counted fresh = new Counted();
        refuseAll(fresh);
        look(fresh, "badLine=-1 state=0");
        due("clear() of none", 0, fresh.clear());
    }

    private static Counted refuseAll(Counted x) {
        for (int[] r : REFUSED) {
            due("line(" + r[0] + ", " + r[1] + ", " + r[2] + ", " + r[3] + ")", false, x.line(r[0], r[1], r[2], r[3]));
        }
        return x;
    }

    private static void inStateStill(Counted x, int i) {
        Counted y = inState(i);
        look(x, "state=" + STATES[i] + " badLine=-1");
        alike("state " + STATES[i], x, y);
        due("run(1)", y.run(1), x.run(1));
        alike("state " + STATES[i] + " and a step", x, y);
    }

    private static void acceptedLineEnds() {
        about("An accepted line ends what was checked and run: IDLE, no goroutines, no channels, nothing printed, panicValue 0, the clock 0.");
        for (int i = 0; i < TEXTS.length; i++) {
            Counted x = inState(i);
            due("line(0, 0, 0, 0)", true, x.line(0, 0, 0, 0));
            idle(x);
            due("run(1)", IDLE, x.run(1));
            idle(x);
            due("line(1, 0, 0, 0)", true, x.line(1, 0, 0, 0));
            due("check()", OK, x.check());
            x.run(200);
            look(x, "state=" + STATES[i] + " printed=1");
        }
        // Ready to run but not yet run.
        Counted y = Program.ready("FUNC 0; END");
        look(y, "state=1");
        y.line(0, 0, 0, 0);
        idle(y);
        // While notes are called and goroutines wait.
        Counted z = after(5, "FUNC 0; GO 1; DEFER 1; PANIC #7; END; FUNC 0; SELECT; END; END");
        look(z, "panicking(0)=1 waitsAt(1)=-3");
        z.line(0, 0, 0, 0);
        idle(z);
    }

    private static void clears() {
        about("`int clear()`: Removes all lines; answers how many there were.");
        for (int n : new int[] {0, 1, 2, 59, 60, 61}) {
            Counted x = new Counted();
            for (int i = 0; i < n; i++) {
                x.line(17, 0, 0, 0);
            }
            due("clear() after " + n, Math.min(n, 60), x.clear());
            due("clear() again", 0, x.clear());
            due("check() after clear()", FORM, x.check());
            look(x, "badLine=0");
        }
        // Nothing of the old lines is left.
        Counted y = Program.ended("FUNC 0; IF #0; PRINT #1; ELSE; CALL 1; END; END; FUNC 0; LOOP #1; BREAK; END; SELECT; CASESEND #1 #1; DEFAULT; END; END");
        y.clear();
        Program.feed(y, "FUNC 0; PRINT #2; END");
        due("check() of other lines", OK, y.check());
        due("run(200)", EXITED, y.run(200));
        look(y, "printed=1 output(0)=2");
        y.clear();
        Program.feed(y, "FUNC 0; CALL 1; END");
        due("check() of a callee that is gone", CALLEE, y.check());
    }

    private static void clearEnds() {
        about("IDLE as after an accepted line.");
        for (int i = 0; i < TEXTS.length; i++) {
            Counted x = inState(i);
            x.clear();
            idle(x);
            due("run(1)", IDLE, x.run(1));
            due("run(200)", IDLE, x.run(200));
            idle(x);
        }
        // Also if there was no line.
        Counted y = new Counted();
        y.clear();
        idle(y);
    }

    private static void checksForm() {
        about("`int check()`: Checks the program: FORM (badLine: the first line such that no program begins with the lines up to it, or the number of lines if the end is missing or there is no line),");
        check(FORM, 0, "");
        check(FORM, 0, "END");
        check(FORM, 1, "FUNC 0");
        check(FORM, 2, "FUNC 0; PRINT #1");
        check(FORM, 60, "FUNC 0;" + "PRINT #1;".repeat(59));
        check(FORM, 60, "FUNC 0;" + "IF #1;".repeat(59));
        check(FORM, 59, "FUNC 0;" + "IF #1;".repeat(58));
        check(FORM, 2, "FUNC 0; END; END; ELSE; BREAK");
        check(FORM, 1, "FUNC 0; ELSE");
        check(FORM, 1, "FUNC 0; BREAK");
        check(FORM, 3, "FUNC 0; END; FUNC 0");
        check(FORM, 6, "FUNC 0; SELECT;" + "CASESEND #1 #1;".repeat(3) + "PRINT #1; CASESEND #1 #1");
        // A line that can still be made good by later ones is none.
        check(FORM, 3, "FUNC 0; SELECT; DEFAULT");
        check(FORM, 2, "FUNC 0; SELECT");
        check(FORM, 3, "FUNC 0; LOOP #1; BREAK");
    }

    private static void checksCallee() {
        about("else CALLEE (the first GO, CALL or DEFER of a function that isn't there),");
        for (String start : new String[] {"GO", "CALL", "DEFER"}) {
            check(OK, -1, "FUNC 0;" + start + " 0; END");
            check(CALLEE, 1, "FUNC 0;" + start + " 1; END");
            check(OK, -1, "FUNC 0;" + start + " 1; END; FUNC 0; END");
            check(CALLEE, 1, "FUNC 0;" + start + " 2; END; FUNC 0; END");
            check(CALLEE, 1, "FUNC 0;" + start + " 29; END; FUNC 0; END");
            check(CALLEE, 2, "FUNC 0;" + start + " 1;" + start + " 2;" + start + " 3; END; FUNC 0; END");
            // Whether a way leads there does not matter.
            check(CALLEE, 2, "FUNC 0; RETURN;" + start + " 1; END");
            check(CALLEE, 3, "FUNC 0; END; FUNC 0;" + start + " 2; END");
            // FORM comes before, wherever it is.
            check(FORM, 2, "FUNC 0;" + start + " 1; ELSE; END");
            check(FORM, 2, "FUNC 0;" + start + " 1");
        }
    }

    private static void checksUnset() {
        about("else UNSET (the first wrong line), else OK.");
        check(UNSET, 1, "FUNC 0; PRINT v0; PRINT v1; END");
        check(UNSET, 2, "FUNC 0; SET v0 #1; PRINT v1; PRINT v2; END");
        check(UNSET, 4, "FUNC 0; SET v0 #1; END; FUNC 0; PRINT v1; END; FUNC 0; PRINT v1; END");
        check(UNSET, 1, "FUNC 0; IF v0; PRINT v1; END; END");
        check(OK, -1, "FUNC 0; SET v0 #1; PRINT v0; END");
        // FORM and CALLEE come before, even if they are found further down.
        check(FORM, 2, "FUNC 0; PRINT v0; ELSE; END");
        check(FORM, 2, "FUNC 0; PRINT v0");
        check(CALLEE, 2, "FUNC 0; PRINT v0; CALL 1; END");
        check(CALLEE, 4, "FUNC 0; PRINT v0; END; FUNC 0; GO 2; END");
    }

    private static void readyAfterOk() {
        about("If OK, the program is ready to run from its beginning: RUNNING, goroutine 0 at its FUNC line, no channels, nothing printed, panicValue 0, the clock 0.");
        String ready = "state=1 badLine=-1 waitsAt(0)=-3 waitsAt(1)=-1 notes(0)=0 panicking(0)=0 variable(0,0)=0 channel(1)=-1 printed=0 output(0)=0 panicValue=0 clock=0";
        for (int i = 0; i < TEXTS.length; i++) {
            look(Program.ready(TEXTS[i]), ready);
            int n = i;
            look(checkedAgain(inState(n)), ready);
            same("again after state " + STATES[n], 30, () -> checkedAgain(inState(n)), () -> Program.ready(TEXTS[n]));
        }
        // In the middle, after any number of steps: sleeping ones, full channels, notes, panics are all gone.
        String text = "FUNC 0; MAKE v0 1; MAKE v1 0; SEND v0 #5; GO 1 v0 v1; GO 1 v1 v0; DEFER 2; SLEEP #2; CLOSE v1; SLEEP #9; PRINT #4; PANIC #7; END;"
                + "FUNC 2; DEFER 2; SELECT; CASESEND v0 #1; CASESEND v1 #2; CASERECV v2 #7 v3; AFTER #5; END; PRINT #8; END; FUNC 0; RECOVER v5; SLEEP #1; PRINT v5; END";
        for (int steps = 0; steps <= 40; steps++) {
            int n = steps;
            look(checkedAgain(after(n, text)), ready);
            same("again after " + n + " steps", 60, () -> checkedAgain(after(n, text)), () -> Program.ready(text));
        }
    }

    private static Counted checkedAgain(Counted x) {
        due("check() again", OK, x.check());
        return x;
    }

    private static void idleOtherwise() {
        about("Otherwise IDLE as after an accepted line.");
        String[] wrong = {"", "FUNC 0; PRINT #1", "FUNC 0; CALL 1; END", "FUNC 0; PRINT v0; END"};
        int[] want = {FORM, FORM, CALLEE, UNSET};
        for (int i = 0; i < wrong.length; i++) {
            Counted x = Program.fed(wrong[i]);
            due("check() of " + wrong[i], want[i], x.check());
            idle(x);
            due("run(1) of " + wrong[i], IDLE, x.run(1));
            due("run(200) of " + wrong[i], IDLE, x.run(200));
            idle(x);
            due("check() again of " + wrong[i], want[i], x.check());
            idle(x);
        }
    }

    private static void badLine() {
        about("`int badLine()`: The line found by the latest check;");
        Counted x = Program.fed("FUNC 0; PRINT v0");
        x.check();
        look(x, "badLine=2");
        x.line(1, 0, 0, 0);
        x.check();
        look(x, "badLine=1");
        look(x, "badLine=1 state=0");
        x.clear();
        x.check();
        look(x, "badLine=0");
        Program.feed(x, "FUNC 0; CALL 0; CALL 1; END");
        x.check();
        look(x, "badLine=2");
        x.check();
        look(x, "badLine=2");
        about("-1 if that answered OK or there was none.");
        look(new Counted(), "badLine=-1");
        look(Program.fed("FUNC 0"), "badLine=-1");
        look(Program.ready("FUNC 0; END"), "badLine=-1");
        look(Program.ended("FUNC 0; PANIC #5; END"), "badLine=-1");
        x.clear();
        Program.feed(x, "FUNC 0; END");
        x.check();
        look(x, "badLine=-1");
        x.line(1, 0, 0, 0);
        x.check();
        look(x, "badLine=2");
    }

    private static void runs() {
        about("`int run(int steps)`: Executes at most steps steps; answers the state (IDLE, RUNNING or how the program ended).");
        String loop = "FUNC 0; SET v0 #0; LOOP #1; ADD v0 v0 #1; PRINT v0; END; END";
        // Two steps, then three to each value printed.
        for (int steps : new int[] {1, 2, 3, 4, 5, 6, 199, 200}) {
            Counted x = Program.ready(loop);
            due("run(" + steps + ")", RUNNING, x.run(steps));
            look(x, "printed=" + (steps - 2) / 3 + " variable(0,0)=" + (steps - 1) / 3);
        }
        // Many short runs are one long run.
        Counted y = Program.ready(loop);
        for (int i = 0; i < 200; i++) {
            y.run(1);
        }
        look(y, "printed=66");
        // At most: fewer if the program ends.
        for (int i = 1; i < TEXTS.length; i++) {
            due("run(200) to the end", STATES[i], Program.ready(TEXTS[i]).run(200));
        }
        due("run(3) of three steps", EXITED, Program.ready("FUNC 0; PRINT #1; PRINT #2; END").run(3));
        due("run(2) of three steps", RUNNING, Program.ready("FUNC 0; PRINT #1; PRINT #2; END").run(2));
        due("run(4) of three steps", EXITED, Program.ready("FUNC 0; PRINT #1; PRINT #2; END").run(4));
        due("run(5) without a check", IDLE, Program.fed("FUNC 0; END").run(5));
    }

    private static void runRefused() {
        about("Nothing changes if the state is not RUNNING or steps is outside 1..200.");
        int[] wrong = {0, -1, -200, 201, 202, 400, LEAST, MOST};
        for (int steps : wrong) {
            same("after run(" + steps + ")", 20, () -> runsOn(Program.ready(TEXTS[0]), steps), () -> Program.ready(TEXTS[0]));
            same("after run(" + steps + ")", 20, () -> runsOn(after(4, TEXTS[1]), steps), () -> after(4, TEXTS[1]));
            for (int i = 1; i < TEXTS.length; i++) {
                Counted z = inState(i);
                due("run(" + steps + ") at the end", STATES[i], z.run(steps));
                inStateStill(z, i);
            }
            due("run(" + steps + ") of a new object", IDLE, new Counted().run(steps));
        }
        for (int steps : new int[] {1, 2, 199, 200}) {
            for (int i = 1; i < TEXTS.length; i++) {
                Counted z = inState(i);
                due("run(" + steps + ") at the end", STATES[i], z.run(steps));
                inStateStill(z, i);
            }
            Counted w = Program.fed("FUNC 0; PRINT #1; END");
            due("run(" + steps + ") without a check", IDLE, w.run(steps));
            idle(w);
        }
    }

    private static Counted runsOn(Counted x, int steps) {
        due("run(" + steps + ")", RUNNING, x.run(steps));
        return x;
    }

    private static void printed() {
        about("`int printed()`: The number of values printed.");
        Counted x = after(1, "FUNC 0; LOOP #1; PRINT #5; END; END");
        for (int n = 0; n <= 70; n++) {
            due("printed()", n, x.printed());
            step(x, 2);
        }
        look(ends(EXITED, "", "FUNC 0; END"), "printed=0");
        // By all goroutines together, and it is a count, not a sum.
        look(ends(EXITED, "0 0 0 -1", "FUNC 0; GO 1; PRINT #0; SLEEP #0; PRINT -1; END; FUNC 0; PRINT #0; PRINT #0; END"), "printed=4");
    }

    private static void output() {
        about("`int output(int k)`: The k-th value printed counted from the latest (0), if k is 0..31 and there are so many; else 0.");
        // Value n is printed as the n-th, 1 the first.
        Counted x = null;
        for (int n = 0; n <= 100; n++) {
            x = after(2 + 3 * n, "FUNC 0; SET v0 #0; LOOP #1; ADD v0 v0 #1; PRINT v0; END; END");
            for (int k = -2; k <= 34; k++) {
                due("output(" + k + ") of " + n, k >= 0 && k <= 31 && k < n ? n - k : 0, x.output(k));
            }
            for (int k : FAR) {
                due("output(" + k + ") of " + n, 0, x.output(k));
            }
        }
        // What an earlier run has printed is not there any more.
        x.check();
        due("output(0) of none", 0, x.output(0));
        x.run(5);
        look(x, "printed=1 output(0)=1 output(1)=0 output(31)=0");
    }

    private static void panicValue() {
        about("`int panicValue()`: The value with which the program ended as PANICKED; else 0.");
        for (int i = 0; i < TEXTS.length; i++) {
            due("panicValue() in state " + STATES[i], STATES[i] == PANICKED ? 7 : 0, inState(i).panicValue());
        }
        due("panicValue() of a new object", 0, new Counted().panicValue());
        for (int value : new int[] {LEAST, -1}) {
            panics(value, "", "FUNC 0; PANIC " + value + "; END");
        }
        for (int value : new int[] {1, MOST}) {
            panics(value, "", "FUNC 0; SUB v0 #0 #" + -value + "; PANIC v0; END");
        }
        panics(0, "", "FUNC 0; PANIC #0; END");
        // Not while it panics, nor when it was recovered.
        look(after(3, "FUNC 0; DEFER 1; PANIC #7; END; FUNC 0; END"), "state=1 panicking(0)=1 panicValue=0");
        look(after(4, "FUNC 0; DEFER 1; PANIC #7; END; FUNC 0; END"), "state=3 panicValue=7");
        look(ends(EXITED, "", "FUNC 0; DEFER 1; PANIC #7; END; FUNC 0; RECOVER v0; END"), "panicValue=0");
    }

    private static void clock() {
        about("`long clock()`: The clock.");
        look(new Counted(), "clock=0");
        Counted x = Program.ready("FUNC 0; LOOP #1; SLEEP 2147483647; END; END");
        x.run(1);
        for (long n = 0; n < 100; n++) {
            due("clock()", n * 2147483641L, x.clock());
            x.run(2);
        }
        look(ends(EXITED, "", "FUNC 0; SLEEP #4; END"), "clock=4");
        look(ends(STUCK, "", "FUNC 0; SLEEP #4; SELECT; END; END"), "clock=4");
    }

    private static void waitsAt() {
        about("`int waitsAt(int g)`: Where goroutine g is: -1 there is none of that number,");
        String twelve = "FUNC 0; SET v0 #11; LOOP v0; GO 1; SUB v0 v0 #1; END; SELECT; END; END; FUNC 0; SELECT; END; END";
        Counted x = after(70, twelve);
        look(x, "waitsAt(-1)=-1 waitsAt(0)=6 waitsAt(11)=10 waitsAt(12)=-1 waitsAt(13)=-1");
        for (int g : FAR) {
            due("waitsAt(" + g + ")", -1, x.waitsAt(g));
        }
        look(Program.ready(twelve), "waitsAt(0)=-3 waitsAt(1)=-1 waitsAt(11)=-1");
        about("-2 it ended,");
        look(ends(EXITED, "", "FUNC 0; GO 1; SLEEP #0; END; FUNC 0; END"), "waitsAt(0)=-2 waitsAt(1)=-2 waitsAt(2)=-1");
        about("-3 it runs or is READY,");
        look(after(3, "FUNC 0; GO 1; GO 1; PRINT #1; END; FUNC 0; END"), "waitsAt(0)=-3 waitsAt(1)=-3 waitsAt(2)=-3 waitsAt(3)=-1");
        about("else the line (SEND, RECV, SELECT or SLEEP) at which it waits.");
        // The first line of a function is 1, the last that can be waited at is 58.
        look(after(2, "FUNC 0; SELECT; END; END"), "waitsAt(0)=1");
        look(Program.ended("FUNC 0;" + "PRINT #1;".repeat(57) + "SEND #0 #1; END"), "waitsAt(0)=58");
        look(Program.ended("FUNC 0; MAKE v0 0; SEND v0 #1; END"), "waitsAt(0)=2");
        look(Program.ended("FUNC 0; MAKE v0 0; RECV v1 v0 v2; END"), "waitsAt(0)=2");
        look(Program.ended("FUNC 0; MAKE v0 0; SELECT; CASESEND v0 #1; CASERECV v1 v0 v2; END; END"), "waitsAt(0)=2");
        look(after(3, "FUNC 0; GO 1; SLEEP #1; END; FUNC 0; LOOP #1; END; END"), "waitsAt(0)=2");
        look(after(3, "FUNC 0; GO 1; SELECT; AFTER #1; END; END; FUNC 0; LOOP #1; END; END"), "waitsAt(0)=2");
        // The line of the topmost activation.
        look(Program.ended("FUNC 0; CALL 1; END; FUNC 0; SELECT; END; END"), "waitsAt(0)=4");
    }

    private static void waitsAtTheEnd() {
        about("When the program has ended: as it was then.");
        look(ends(STUCK, "", "FUNC 0; GO 1; GO 2; SELECT; END; END; FUNC 0; END; FUNC 0; RECV v0 #0 v0; END"), "waitsAt(0)=3 waitsAt(1)=-2 waitsAt(2)=9 waitsAt(3)=-1");
        look(ends(EXITED, "", "FUNC 0; GO 1; GO 2; GO 1; SLEEP #0; GO 3; END; FUNC 0; END; FUNC 0; SEND #0 #1; END; FUNC 0; END"),
                "waitsAt(0)=-2 waitsAt(1)=-2 waitsAt(2)=10 waitsAt(3)=-2 waitsAt(4)=-3 waitsAt(5)=-1");
        look(panics(3, "", "FUNC 0; GO 1; GO 2; SLEEP #5; END; FUNC 0; PANIC #3; END; FUNC 0; END"), "waitsAt(0)=3 waitsAt(1)=-2 waitsAt(2)=-3");
        look(ends(OVERFLOW, "", "FUNC 0; GO 1; GO 2; SLEEP #5; END; FUNC 0; CALL 1; END; FUNC 0; END"), "waitsAt(0)=3 waitsAt(1)=-3 waitsAt(2)=-3");
    }

    private static void variable() {
        about("`int variable(int g, int v)`: Variable v of the topmost activation of goroutine g; 0 if there is none or v is outside 0..5.");
        String text = "FUNC 0; SET v0 #40; SET v1 #41; SET v2 #42; SET v3 #43; SET v4 #44; SET v5 #45; GO 1 #50 #51; CALL 2 #60 #61; SLEEP #1; SELECT; END; END;"
                + "FUNC 2; SELECT; END; END; FUNC 2; SLEEP #1; END";
        Counted x = after(8, text);
        look(x, "variable(0,-1)=0 variable(0,0)=40 variable(0,1)=41 variable(0,2)=42 variable(0,3)=43 variable(0,4)=44 variable(0,5)=45 variable(0,6)=0");
        look(x, "variable(-1,0)=0 variable(-1,5)=0 variable(1,0)=50 variable(1,1)=51 variable(1,2)=0 variable(1,6)=0 variable(1,-1)=0 variable(2,0)=0 variable(12,0)=0");
        for (int n : FAR) {
            due("variable(0, " + n + ")", 0, x.variable(0, n));
            due("variable(" + n + ", 0)", 0, x.variable(n, 0));
            due("variable(" + n + ", " + n + ")", 0, x.variable(n, n));
        }
        // The topmost activation: the called one, then the caller again.
        step(x, 1);
        look(x, "variable(0,0)=60 variable(0,1)=61 variable(0,2)=0 variable(0,5)=0");
        step(x, 3);
        look(x, "variable(0,0)=60 waitsAt(0)=18");
        step(x, 1);
        look(x, "variable(0,0)=40 variable(0,5)=45 state=1");
        step(x, 5);
        look(x, "state=4 variable(0,0)=40 variable(1,0)=50");
        // What a called one has left behind, or another goroutine has, is out of reach.
        look(x, "variable(0,6)=0 variable(0,7)=0 variable(0,-1)=0 variable(1,-1)=0 variable(1,-2)=0");
        Counted all = ends(STUCK, "", TWELVE_DEEP);
        for (int g = 0; g < 12; g++) {
            look(all, "variable(" + g + ",5)=" + (12 - g) + " variable(" + g + ",6)=0 variable(" + g + ",7)=0 variable(" + g + ",-1)=0 variable(" + g + ",-2)=0");
        }
        look(all, "variable(12,0)=0 variable(12,5)=0 variable(-1,5)=0 notes(12)=-1 panicking(12)=0 waitsAt(12)=-1");
        // None: it has ended.
        look(ends(EXITED, "", "FUNC 0; SET v0 #7; GO 1 #5; SLEEP #0; END; FUNC 1; END"), "variable(0,0)=0 variable(1,0)=0");
        // The last of all.
        look(after(70, "FUNC 0; SET v0 #11; LOOP v0; GO 1 v0; SUB v0 v0 #1; END; SELECT; END; END; FUNC 1; SET v5 v0; SELECT; END; END"),
                "variable(11,0)=1 variable(11,5)=1 variable(1,5)=11 variable(12,5)=0");
    }

    private static void channel() {
        about("`int channel(int ch)`: The number of values in channel ch, +8 if it is closed; -1 if there is no such channel.");
        for (int capacity = 0; capacity <= 3; capacity++) {
            for (int fill = 0; fill <= capacity; fill++) {
                String text = "FUNC 0; MAKE v0 " + capacity + ";" + "SEND v0 #1;".repeat(fill) + "@ END";
                look(ends(EXITED, "", text.replace("@", "")), "channel(1)=" + fill + " channel(0)=-1 channel(2)=-1 channel(-1)=-1");
                look(ends(EXITED, "", text.replace("@", "CLOSE v0;")), "channel(1)=" + (fill + 8) + " channel(0)=-1 channel(2)=-1 channel(-1)=-1");
            }
        }
        Counted x = ends(EXITED, "", "FUNC 0;" + "MAKE v0 3;".repeat(8) + "SEND v0 #1; CLOSE #1; END");
        look(x, "channel(0)=-1 channel(1)=8 channel(2)=0 channel(7)=0 channel(8)=1 channel(9)=-1");
        for (int ch : FAR) {
            due("channel(" + ch + ")", -1, x.channel(ch));
        }
        look(new Counted(), "channel(0)=-1 channel(1)=-1");
        look(after(1, "FUNC 0; MAKE v0 0; END"), "channel(1)=-1");
        // Values of those that wait to send are not in it.
        look(Program.ended("FUNC 0; MAKE v0 0; SEND v0 #1; END"), "channel(1)=0");
        // A closed one that is emptied.
        Counted y = after(5, "FUNC 0; MAKE v0 3; SEND v0 #1; SEND v0 #1; CLOSE v0; RECV v1 v0 v2; RECV v1 v0 v2; RECV v1 v0 v2; SELECT; END; END");
        look(y, "channel(1)=10");
        step(y, 1);
        look(y, "channel(1)=9");
        step(y, 1);
        look(y, "channel(1)=8");
        step(y, 1);
        look(y, "channel(1)=8");
    }

    private static void notes() {
        about("`int notes(int g)`: How many notes the topmost activation of goroutine g has; -1 if there is none.");
        String text = "FUNC 0; GO 1; DEFER 2; DEFER 2; DEFER 2; CALL 1; SELECT; END; END; FUNC 0; DEFER 2; SLEEP #1; END; FUNC 0; END";
        Counted x = after(1, text);
        look(x, "notes(-1)=-1 notes(0)=0 notes(1)=-1 notes(12)=-1");
        step(x, 1);
        look(x, "notes(0)=0 notes(1)=0 notes(2)=-1");
        for (int n = 1; n <= 3; n++) {
            step(x, 1);
            look(x, "notes(0)=" + n + " notes(1)=0");
        }
        step(x, 1);
        look(x, "notes(0)=0");
        step(x, 2);
        look(x, "notes(0)=1 notes(1)=0");
        for (int g : FAR) {
            due("notes(" + g + ")", -1, x.notes(g));
        }
        for (int i = 0; i < 20; i++) {
            x.run(1);
        }
        look(x, "state=4 notes(0)=3 notes(1)=-1");
        look(ends(EXITED, "", "FUNC 0; DEFER 1; END; FUNC 0; END"), "notes(0)=-1");
        look(new Counted(), "notes(0)=-1");
    }

    private static void panicking() {
        about("`int panicking(int g)`: How many activations of goroutine g panic now (their notes are being called); 0 if there is none.");
        String text = "FUNC 0; GO 4; DEFER 1; PANIC #1; END; FUNC 0; DEFER 2; PANIC #2; END; FUNC 0; DEFER 3; PANIC #3; END;"
                + "FUNC 0; RECOVER v0; SLEEP #0; END; FUNC 0; DEFER 5; PANIC #9; END; FUNC 0; SELECT; END; END";
        Counted x = after(3, text);
        look(x, "panicking(0)=0 panicking(1)=0 panicking(2)=0 panicking(-1)=0 panicking(12)=0");
        step(x, 1);
        look(x, "panicking(0)=1 panicking(1)=0");
        step(x, 2);
        look(x, "panicking(0)=1");
        step(x, 1);
        look(x, "panicking(0)=2");
        step(x, 3);
        look(x, "panicking(0)=3 panicking(1)=0");
        for (int g : FAR) {
            due("panicking(" + g + ")", 0, x.panicking(g));
        }
        step(x, 2);
        look(x, "panicking(0)=2 panicking(1)=0 variable(0,0)=3");
        // Goroutine 0 lets 1 run, which panics, and whose note waits; 0 then leaves with the panic of its second activation.
        step(x, 4);
        look(x, "panicking(0)=2 panicking(1)=1 state=1");
        step(x, 2);
        look(x, "state=3 panicValue=2 panicking(0)=0 panicking(1)=1 waitsAt(0)=-2");
        // Leaving without panic does not count, nor what was recovered.
        look(after(3, "FUNC 0; DEFER 1; RETURN; END; FUNC 0; SLEEP #1; END"), "panicking(0)=0 state=1");
        look(after(5, "FUNC 0; DEFER 1; PANIC #7; END; FUNC 0; RECOVER v0; SLEEP #1; END"), "panicking(0)=0 state=1");
        look(new Counted(), "panicking(0)=0");
        look(panics(7, "", "FUNC 0; PANIC #7; END"), "panicking(0)=0");
    }
}
