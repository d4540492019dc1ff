/** Promises 4 and 5: check and badLine. */
public final class CheckTest {
    private static final int OK = ChannelProgramRunner.OK;
    private static final int FORM = ChannelProgramRunner.FORM;
    private static final int CALLEE = ChannelProgramRunner.CALLEE;
    private static final int UNSET = ChannelProgramRunner.UNSET;
    private static final Answers answers = new Answers();

    public static void main(String[] args) {
        blocks();
        selects();
        breaks();
        callees();
        unsetReads();
        unsetWays();
        unsetSelects();
        orderOfFaults();
        readyAfterOk();
        sameAgain();
        badLineStays();
        answers.finish();
    }

    private static void due(int want, int bad, String text) {
        Counted x = Program.fed(text);
        answers.due("check() of " + text, want, x.check());
        answers.due("badLine() of " + text, bad, x.badLine());
        answers.due("state of " + text, want == OK ? ChannelProgramRunner.RUNNING : ChannelProgramRunner.IDLE, x.run(0));
        answers.due("waitsAt(0) of " + text, want == OK ? -3 : -1, x.waitsAt(0));
    }

    /** The lines stand in a function 0 (line 0); the faulty line is counted from there. */
    private static void dueInside(int want, int bad, String lines) {
        due(want, bad, "FUNC 0;" + lines + ";END");
    }

    private static void blocks() {
        due(FORM, 0, "");
        due(FORM, 1, "FUNC 0");
        due(OK, -1, "FUNC 0; END");
        due(OK, -1, "FUNC 2; END; FUNC 1; END; FUNC 0; END");
        due(FORM, 0, "END");
        due(FORM, 0, "PRINT #1");
        due(FORM, 2, "FUNC 0; END; END");
        due(FORM, 2, "FUNC 0; END; PRINT #1; FUNC 0; END");
        due(FORM, 1, "FUNC 0; FUNC 0; END; END");
        due(FORM, 2, "FUNC 0; IF #1; FUNC 0; END; END; END");
        due(FORM, 3, "FUNC 0; IF #1; END");
        due(FORM, 4, "FUNC 0; IF #1; LOOP #0; END");
        dueInside(OK, -1, "IF #1; END");
        dueInside(OK, -1, "IF #1; ELSE; END");
        dueInside(OK, -1, "IF #1; PRINT #1; ELSE; IF #0; ELSE; END; END");
        dueInside(FORM, 3, "IF #1; ELSE; ELSE; END");
        dueInside(FORM, 1, "ELSE");
        dueInside(FORM, 2, "LOOP #1; ELSE; END");
        dueInside(FORM, 3, "IF #1; LOOP #1; ELSE; END; END");
        dueInside(FORM, 3, "IF #1; END; ELSE; END");
        dueInside(OK, -1, "IF #1; IF #1; ELSE; END; ELSE; END");
        dueInside(OK, -1, "LOOP #0; LOOP #0; END; END");
        due(FORM, 59, "FUNC 0;" + "IF #1;".repeat(58));
        due(FORM, 60, "FUNC 0;" + "IF #1;".repeat(59));
        due(OK, -1, "FUNC 0; END;".repeat(30));
        due(FORM, 59, "FUNC 0; END;".repeat(29) + "FUNC 0");
    }

    private static void selects() {
        dueInside(OK, -1, "SELECT; END");
        dueInside(FORM, 2, "SELECT; PRINT #1; END");
        dueInside(FORM, 2, "SELECT; IF #1; END; END");
        dueInside(FORM, 2, "SELECT; ELSE; END");
        dueInside(FORM, 2, "SELECT; SELECT; END; END");
        dueInside(FORM, 1, "CASESEND #1 #1");
        dueInside(FORM, 1, "CASERECV v0 #1 v0");
        dueInside(FORM, 1, "DEFAULT");
        dueInside(FORM, 1, "AFTER #1");
        dueInside(FORM, 4, "SELECT; DEFAULT; IF #1; CASESEND #1 #1; END; END");
        dueInside(FORM, 4, "SELECT; DEFAULT; LOOP #1; AFTER #1; END; END");
        dueInside(OK, -1, "SELECT; CASESEND #1 #1; CASERECV v0 #1 v1; CASESEND #2 #2; DEFAULT; END");
        dueInside(OK, -1, "SELECT; AFTER #1; CASERECV v0 #1 v1; CASERECV v0 #1 v1; CASESEND #2 #2; END");
        dueInside(FORM, 5, "SELECT; CASESEND #1 #1; CASERECV v0 #1 v1; CASESEND #2 #2; CASESEND #2 #2; END");
        dueInside(FORM, 5, "SELECT; CASERECV v0 #1 v1; CASERECV v0 #1 v1; CASERECV v0 #1 v1; CASERECV v0 #1 v1; END");
        dueInside(FORM, 3, "SELECT; DEFAULT; DEFAULT; END");
        dueInside(FORM, 3, "SELECT; AFTER #1; AFTER #1; END");
        dueInside(FORM, 3, "SELECT; AFTER #1; DEFAULT; END");
        dueInside(FORM, 4, "SELECT; DEFAULT; PRINT #1; AFTER #1; END");
        dueInside(OK, -1, "SELECT; DEFAULT; SELECT; DEFAULT; END; CASESEND #1 #1; END");
        dueInside(OK, -1, "SELECT; CASESEND #1 #1; CASESEND #1 #1; CASESEND #1 #1; SELECT; CASESEND #1 #1; END; END");
        dueInside(FORM, 8, "SELECT; CASESEND #1 #1; CASESEND #1 #1; SELECT; CASESEND #1 #1; CASESEND #1 #1;"
                + "DEFAULT; DEFAULT; END; END");
    }

    private static void breaks() {
        dueInside(FORM, 1, "BREAK");
        dueInside(OK, -1, "LOOP #1; BREAK; END");
        dueInside(OK, -1, "LOOP #1; IF #1; ELSE; BREAK; END; END");
        dueInside(OK, -1, "LOOP #1; SELECT; DEFAULT; BREAK; END; END");
        dueInside(FORM, 3, "LOOP #1; END; BREAK");
        dueInside(FORM, 3, "SELECT; DEFAULT; BREAK; END");
        dueInside(FORM, 2, "IF #1; BREAK; END");
        due(FORM, 5, "FUNC 0; LOOP #1; END; END; FUNC 0; BREAK; END");
    }

    private static void callees() {
        dueInside(OK, -1, "CALL 0");
        dueInside(CALLEE, 1, "CALL 1");
        dueInside(CALLEE, 1, "GO 29");
        dueInside(CALLEE, 2, "GO 0; DEFER 1");
        due(OK, -1, "FUNC 0; CALL 1; END; FUNC 0; GO 0; END");
        due(CALLEE, 4, "FUNC 0; CALL 1; END; FUNC 0; GO 2; CALL 3; END");
        dueInside(CALLEE, 2, "RETURN; DEFER 4");
    }

    private static void unsetReads() {
        String[] readers = {"IF v3; END", "LOOP v3; END", "SEND v3 #1", "SEND #1 v3", "RECV v0 v3 v1", "CLOSE v3",
            "PANIC v3", "PRINT v3", "SET v0 v3", "ADD v0 v3 #1", "ADD v0 #1 v3", "SUB v0 v3 #1", "SUB v0 #1 v3",
            "MUL v0 v3 #1", "MUL v0 #1 v3", "DIV v0 v3 #1", "DIV v0 #1 v3", "LESS v0 v3 #1", "LESS v0 #1 v3",
            "SAME v0 v3 #1", "SAME v0 #1 v3", "SLEEP v3", "SET v3 v3", "ADD v3 v3 #1", "RECV v3 v3 v3"};
        for (String reader : readers) {
            dueInside(UNSET, 2, "SET v2 #0;" + reader);
            dueInside(OK, -1, "SET v3 #0;" + reader);
        }
        String[] setters = {"SET v3 #1", "ADD v3 #1 #1", "SUB v3 #1 #1", "MUL v3 #1 #1", "DIV v3 #1 #1",
            "LESS v3 #1 #1", "SAME v3 #1 #1", "MAKE v3 3", "RECOVER v3", "RECV v3 #1 v4", "RECV v4 #1 v3"};
        for (String setter : setters) {
            dueInside(OK, -1, setter + "; PRINT v3");
            dueInside(UNSET, 1, "PRINT v3;" + setter);
            dueInside(UNSET, 2, setter + "; PRINT v5");
        }
        String[] silent = {"MAKE v0 3", "RECOVER v3", "RETURN", "SELECT; END", "SEND #1 #2", "PRINT -1", "PRINT #0"};
        for (String line : silent) {
            dueInside(OK, -1, line);
        }
        String callees = "FUNC 0; END; FUNC 1; END; FUNC 2; END";
        for (String start : new String[] {"GO", "CALL", "DEFER"}) {
            due(OK, -1, callees + "; FUNC 0; " + start + " 0 v1 v2; END");
            due(OK, -1, callees + "; FUNC 0; " + start + " 1 #1 v2; END");
            due(UNSET, 7, callees + "; FUNC 0; " + start + " 1 v1 #2; END");
            due(UNSET, 7, callees + "; FUNC 0; " + start + " 2 v1 #2; END");
            due(UNSET, 7, callees + "; FUNC 0; " + start + " 2 #1 v2; END");
            due(OK, -1, callees + "; FUNC 2; " + start + " 2 v0 v1; END");
        }
        due(OK, -1, "FUNC 1; PRINT v0; END");
        due(UNSET, 2, "FUNC 1; PRINT v0; PRINT v1; END");
        due(OK, -1, "FUNC 2; PRINT v0; PRINT v1; END");
        due(UNSET, 3, "FUNC 2; PRINT v0; PRINT v1; PRINT v2; END");
        due(UNSET, 4, "FUNC 0; SET v0 #1; END; FUNC 0; PRINT v0; END");
    }

    private static void unsetWays() {
        dueInside(UNSET, 4, "IF #1; SET v0 #1; END; PRINT v0");
        dueInside(UNSET, 5, "IF #1; SET v0 #1; ELSE; END; PRINT v0");
        dueInside(UNSET, 5, "IF #1; ELSE; SET v0 #1; END; PRINT v0");
        dueInside(OK, -1, "IF #1; SET v0 #1; ELSE; SET v0 #2; END; PRINT v0");
        dueInside(UNSET, 4, "IF #1; SET v0 #1; ELSE; PRINT v0; END");
        dueInside(OK, -1, "IF #1; RETURN; ELSE; SET v0 #2; END; PRINT v0");
        dueInside(OK, -1, "IF #1; PANIC #1; ELSE; SET v0 #2; END; PRINT v0");
        dueInside(OK, -1, "IF #1; SELECT; END; ELSE; SET v0 #2; END; PRINT v0");
        dueInside(OK, -1, "IF #0; RETURN; END; SET v0 #1; PRINT v0");
        dueInside(OK, -1, "RETURN; PRINT v0");
        dueInside(OK, -1, "PANIC #1; PRINT v0");
        dueInside(OK, -1, "SELECT; END; PRINT v0");
        dueInside(OK, -1, "IF #1; RETURN; ELSE; RETURN; END; PRINT v0");
        dueInside(UNSET, 4, "LOOP #1; SET v0 #1; END; PRINT v0");
        dueInside(UNSET, 2, "LOOP #1; PRINT v0; SET v0 #1; END");
        dueInside(UNSET, 1, "LOOP v0; SET v0 #1; END");
        dueInside(OK, -1, "SET v0 #1; LOOP v0; SET v1 #1; PRINT v1; END");
        dueInside(UNSET, 5, "LOOP #1; BREAK; SET v0 #1; END; PRINT v0");
        dueInside(UNSET, 7, "SET v1 #1; LOOP v1; IF v1; BREAK; END; END; PRINT v0");
        dueInside(OK, -1, "LOOP #1; BREAK; PRINT v0; END");
        dueInside(UNSET, 5, "LOOP #1; SET v0 #1; BREAK; END; PRINT v0");
        dueInside(OK, -1, "LOOP #1; IF #1; BREAK; ELSE; SET v0 #1; END; PRINT v0; END");
        dueInside(UNSET, 6, "LOOP #1; RETURN; END; LOOP #0; END; PRINT v0");
        // A LOOP after a dead end is not reached, nor is what stands behind it.
        dueInside(OK, -1, "RETURN; LOOP v0; PRINT v1; BREAK; END; PRINT v2");
        // The inner BREAK leaves the inner LOOP only.
        dueInside(OK, -1, "LOOP #1; LOOP #1; BREAK; END; SET v0 #1; PRINT v0; END");
        dueInside(UNSET, 6, "LOOP #1; LOOP #1; SET v0 #1; BREAK; END; PRINT v0; END");
    }

    private static void unsetSelects() {
        dueInside(UNSET, 1, "SELECT; CASESEND v0 #1; END");
        dueInside(UNSET, 1, "SELECT; CASESEND #1 v0; END");
        dueInside(UNSET, 1, "SELECT; CASERECV v0 v0 v1; END");
        dueInside(UNSET, 1, "SELECT; AFTER v0; END");
        dueInside(UNSET, 1, "SELECT; CASERECV v0 #1 v1; CASESEND v0 #1; END");
        dueInside(UNSET, 1, "SELECT; DEFAULT; SET v0 #1; CASESEND #1 v0; END");
        dueInside(OK, -1, "SELECT; CASERECV v0 #1 v1; PRINT v0; PRINT v1; END");
        dueInside(UNSET, 4, "SELECT; CASERECV v0 #1 v1; DEFAULT; PRINT v0; END");
        dueInside(UNSET, 4, "SELECT; CASERECV v0 #1 v1; DEFAULT; PRINT v1; END");
        dueInside(OK, -1, "SELECT; CASERECV v0 #1 v1; END; PRINT v0; PRINT v1");
        dueInside(OK, -1, "SELECT; CASERECV v0 #1 v1; CASERECV v1 #1 v0; AFTER #1; SET v0 #1; END; PRINT v0");
        dueInside(UNSET, 7, "SELECT; CASERECV v0 #1 v1; CASERECV v1 #1 v0; AFTER #1; SET v0 #1; END; PRINT v1");
        dueInside(UNSET, 5, "SELECT; CASERECV v0 #1 v1; DEFAULT; END; PRINT v0");
        dueInside(OK, -1, "SELECT; CASERECV v0 #1 v1; DEFAULT; RETURN; END; PRINT v0");
        dueInside(OK, -1, "SELECT; DEFAULT; SET v0 #1; END; PRINT v0");
        dueInside(UNSET, 8, "LOOP #1; SELECT; DEFAULT; SET v0 #1; BREAK; END; END; PRINT v0");
        // A plain SEND inside a section is read where it stands, not at the SELECT.
        dueInside(UNSET, 3, "SELECT; DEFAULT; SEND v0 #1; END");
        dueInside(OK, -1, "SELECT; CASERECV v0 #1 v1; SEND v0 v1; END");
        // The inner SELECT's cases are read by the inner one.
        dueInside(UNSET, 3, "SELECT; DEFAULT; SELECT; CASESEND v0 #1; END; END");
    }

    private static void orderOfFaults() {
        due(FORM, 3, "FUNC 0; PRINT v0; CALL 7; ELSE; END");
        due(CALLEE, 2, "FUNC 0; PRINT v0; CALL 7; END");
        due(FORM, 3, "FUNC 0; PRINT v0; CALL 7");
        due(UNSET, 2, "FUNC 0; SET v1 #1; PRINT v0; PRINT v2; END");
    }

    private static void readyAfterOk() {
        Counted x = Program.ended("FUNC 2; MAKE v0 1; PRINT #5; DEFER 0; SLEEP #3; PANIC #7; END");
        answers.due("panicValue() at first", 0, x.panicValue());
        answers.due("clock() at first", 12, x.clock());
        answers.due("check() again", OK, x.check());
        answers.due("badLine()", -1, x.badLine());
        answers.due("waitsAt(0)", -3, x.waitsAt(0));
        answers.due("waitsAt(1)", -1, x.waitsAt(1));
        answers.due("variable(0, 0)", 0, x.variable(0, 0));
        answers.due("notes(0)", 0, x.notes(0));
        answers.due("panicking(0)", 0, x.panicking(0));
        answers.due("channel(1)", -1, x.channel(1));
        answers.due("printed()", 0, x.printed());
        answers.due("output(0)", 0, x.output(0));
        answers.due("panicValue()", 0, x.panicValue());
        answers.due("clock()", 0, x.clock());
        answers.due("run(3)", ChannelProgramRunner.RUNNING, x.run(3));
        answers.due("printed() in the second run", 1, x.printed());
        answers.due("channel(1) in the second run", 0, x.channel(1));
        answers.due("variable(0, 0) in the second run", 1, x.variable(0, 0));

        Counted y = Program.ended("FUNC 0; PANIC #7; END");
        answers.due("panicValue()", 7, y.panicValue());
        answers.due("check()", OK, y.check());
        answers.due("panicValue() after check()", 0, y.panicValue());
        answers.due("run(2)", ChannelProgramRunner.PANICKED, y.run(2));
        answers.due("panicValue() again", 7, y.panicValue());
    }

    /** Leaves a program after some steps, checks it again and compares it with a new one, step by step. */
    private static void dueAgain(int steps, String text) {
        for (int i = 0; i < 60; i++) {
            Counted x = Program.ready(text);
            x.run(steps);
            answers.due("check() again", OK, x.check());
            Counted y = Program.ready(text);
            answers.due("run(" + i + ")", y.run(i), x.run(i));
            String what = " in step " + i + " after " + steps + " steps of " + text;
            for (int g = 0; g < 13; g++) {
                answers.due("waitsAt(" + g + ")" + what, y.waitsAt(g), x.waitsAt(g));
                answers.due("notes(" + g + ")" + what, y.notes(g), x.notes(g));
                answers.due("panicking(" + g + ")" + what, y.panicking(g), x.panicking(g));
                answers.due("channel(" + g + ")" + what, y.channel(g), x.channel(g));
                answers.due("output(" + g + ")" + what, y.output(g), x.output(g));
                for (int v = 0; v < 6; v++) {
                    answers.due("variable(" + g + ", " + v + ")" + what, y.variable(g, v), x.variable(g, v));
                }
            }
            answers.due("clock()" + what, y.clock(), x.clock());
            answers.due("printed()" + what, y.printed(), x.printed());
            answers.due("panicValue()" + what, y.panicValue(), x.panicValue());
            answers.due("run(1)" + what, y.run(1), x.run(1));
        }
    }

    private static void sameAgain() {
        String[] texts = {
            "FUNC 0; GO 1 #1; GO 1 #2; GO 1 #3; SLEEP #0; SET v4 #3; GO 1 #4; SLEEP #0; END; FUNC 1; PRINT v0; SLEEP v0; SET v3 #8; END",
            "FUNC 0; MAKE v0 3; SEND v0 #1; SEND v0 #2; CLOSE v0; MAKE v1 3; SEND v1 #8; SELECT; CASESEND v1 #3; AFTER #1; END; PRINT #9; SELECT; END; END",
            "FUNC 0; DEFER 0; DEFER 1; CALL 1; SET v5 #5; PANIC #7; END; FUNC 0; SET v5 #6; DEFER 2; PRINT #1; END; FUNC 0; SET v5 #7; PRINT #2; END",
            "FUNC 0; MAKE v0 0; GO 1 v0; GO 1 v0; SLEEP #0; CLOSE v0; PRINT #4; SLEEP #0; PRINT #5; END;"
                + "FUNC 1; DEFER 2; SELECT; CASESEND #0 #1; CASESEND v0 #2; AFTER #5; END; END; FUNC 0; RECOVER v3; PRINT v3; END",
            "FUNC 0; PRINT #1; DEFER 0; DEFER 0; DEFER 0; SET v2 #2; CALL 0; END"};
        for (String text : texts) {
            for (int steps = 1; steps <= 30; steps++) {
                dueAgain(steps, text);
            }
        }
        Counted x = Program.fed("FUNC 0; CALL 1; END");
        answers.due("check() at first", CALLEE, x.check());
        answers.due("check() a second time", CALLEE, x.check());
    }

    private static void badLineStays() {
        Counted x = Program.fed("FUNC 0; PRINT v0");
        answers.due("badLine() before any check", -1, x.badLine());
        x.check();
        answers.due("badLine() of FORM", 2, x.badLine());
        x.run(5);
        answers.due("badLine() after run()", 2, x.badLine());
        Program.feed(x, "END");
        answers.due("badLine() is the latest check's", 2, x.badLine());
        answers.due("check()", UNSET, x.check());
        answers.due("badLine() of UNSET", 1, x.badLine());
        x.clear();
        answers.due("badLine() after clear()", 1, x.badLine());
        Program.feed(x, "FUNC 0; END");
        answers.due("check()", OK, x.check());
        answers.due("badLine() of OK", -1, x.badLine());
        x.run(5);
        answers.due("badLine() after a run", -1, x.badLine());
    }
}
