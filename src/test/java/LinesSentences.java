import java.util.function.IntFunction;

/** Terms: LINES. */
final class LinesSentences extends Sentences {
    private static final int[] SETS_A = {8, 11, 13, 19, 21, 22, 23, 24, 25, 26, 27};
    private static final int[] SETS_C = {8, 11};
    /** Both sides of what tells a variable from a constant, and the ends of the ints. */
    private static final int[] OPERANDS = {LEAST, -2, -1, 0, 1, 2, 3, 4, 5, 6, 7, 8, MOST};
    private static final String HELPERS = ";END; FUNC 1; PRINT v0; END; FUNC 2; PRINT v1; END; FUNC 0; RECOVER v0; PRINT v0; END";

    @Override
    void all() {
        isFedLineByLine();
        variables();
        operands();
        notNamed();
        parameters();
        capacities();
        valueOperands();
        comparedOperands();
        channelOperands();
        conditionOperands();
        timeOperands();
        variableRows();
        plainRows();
        functionNumbers();
        givenOperands();
    }

    private static void isFedLineByLine() {
        about("A program is fed line by line. LINES line(kind, a, b, c).");
        Counted x = new Counted();
        due("check() of no line", FORM, x.check());
        due("first line", true, x.line(0, 0, 0, 0));
        due("check() of one line", FORM, x.check());
        due("second line", true, x.line(1, 0, 0, 0));
        due("check() of two lines", OK, x.check());
    }

    private static void variables() {
        about("VAR is a variable 0..5.");
        for (int kind : SETS_A) {
            for (int v = 0; v <= 5; v++) {
                line(true, kind, v, 0, 0);
            }
            line(false, kind, -1, 0, 0);
            line(false, kind, 6, 0, 0);
            for (int v : FAR) {
                line(false, kind, v, 0, 0);
            }
        }
        for (int kind : SETS_C) {
            for (int v = 0; v <= 5; v++) {
                line(true, kind, 0, 0, v);
            }
            line(false, kind, 0, 0, -1);
            line(false, kind, 0, 0, 6);
            for (int v : FAR) {
                line(false, kind, 0, 0, v);
            }
        }
    }

    private static int valueOf(int operand) {
        return operand < 0 ? operand : operand < 6 ? 40 + operand : operand - 6;
    }

    /** The lines must print what the operand in place of @ asks for; variable n is 40 + n, channel 1 has room for three. */
    private static void prints(String lines, IntFunction<String> outputs) {
        for (int operand : OPERANDS) {
            ends(EXITED, outputs.apply(valueOf(operand)), "FUNC 0; MAKE v0 3; SET v0 #40; SET v1 #41; SET v2 #42; SET v3 #43;"
                    + "SET v4 #44; SET v5 #45;" + lines.replace("@", "" + operand) + HELPERS);
        }
    }

    private static void printsIt(String lines) {
        prints(lines, value -> "" + value);
    }

    private static void operands() {
        about("OPERAND is an int: 0..5 means that variable, 6 and more the constant OPERAND - 6, a negative number itself.");
        printsIt("PRINT @");
        ends(EXITED, "-1 40 45 0 1", "FUNC 0; SET v0 #40; SET v5 #45; PRINT -1; PRINT 0; PRINT 5; PRINT 6; PRINT 7; END");
        // The constant 0 is not what another activation has left behind.
        ends(EXITED, "0 -1", "FUNC 0; CALL 1 #5 #5; PRINT 6; PRINT -1; END; FUNC 2; SET v5 #5; END");
        ends(EXITED, "0 -1", "FUNC 0; CALL 1; END; FUNC 0; SET v0 #5; SET v5 #5; CALL 2; END; FUNC 0; PRINT 6; PRINT -1; END");
        ends(EXITED, "-2147483648 2147483641", "FUNC 0; PRINT -2147483648; PRINT 2147483647; END");
    }

    private static void notNamed() {
        about("What isn't named for a kind is not looked at.");
        int[] all = {1, 3, 5, 6, 9, 17};
        int[] bAndC = {0, 2, 4, 12, 18, 19, 20, 28, 29};
        int[] onlyC = {7, 10, 13, 21};
        int[] wrong = {LEAST, -1, 6, 30, 60, MOST};
        for (int n : wrong) {
            for (int kind : all) {
                line(true, kind, n, n, n);
            }
            for (int kind : bAndC) {
                line(true, kind, 0, n, n);
            }
            for (int kind : onlyC) {
                line(true, kind, 0, 0, n);
            }
        }
        String text = "FUNC 0; MAKE v0 1; GO 1; GO 2 v0; DEFER 1; SET v1 #2; LOOP v1; SUB v1 v1 #1; IF v1; PRINT #8; ELSE; BREAK; END; END;"
                + "SELECT; CASESEND v0 #3; PRINT #1; DEFAULT; PRINT #2; END; SELECT; CASESEND v0 #3; AFTER #2; PRINT #4; END;"
                + "RECV v2 v0 v3; SLEEP #1; SLEEP #0; CALL 1; RECOVER v4; CLOSE v0; PANIC #6; END; FUNC 0; PRINT #9; RETURN; END;"
                + "FUNC 1; SELECT; CASERECV v1 v0 v2; PRINT v1; END; SELECT; END; END";
        // Variable 5 is never set: who looked at it would find the program wrong.
        int[] leftOut = {LEAST, -1, 5, 6, 29, MOST};
        for (int n : leftOut) {
            same("with " + n, 60, () -> readyWith(text, n), () -> Program.ready(text));
            due("end with " + n, PANICKED, readyWith(text, n).run(200));
        }
    }

    private static Counted readyWith(String text, int leftOut) {
        Counted x = new Counted();
        Program.feed(x, text, leftOut);
        due("check() with " + leftOut, OK, x.check());
        return x;
    }

    private static void parameters() {
        about("0 FUNC a begins a function with a = 0..2 parameters");
        line(false, 0, -1, 0, 0);
        for (int a = 0; a <= 2; a++) {
            line(true, 0, a, 0, 0);
        }
        line(false, 0, 3, 0, 0);
        for (int a : FAR) {
            line(false, 0, a, 0, 0);
        }
        check(UNSET, 1, "FUNC 0; PRINT v0; END");
        check(UNSET, 2, "FUNC 1; PRINT v0; PRINT v1; END");
        check(UNSET, 3, "FUNC 2; PRINT v0; PRINT v1; PRINT v2; END");
    }

    private static void capacities() {
        about("13 MAKE a b VAR a, capacity b = 0..3");
        line(false, 13, 0, -1, 0);
        for (int b = 0; b <= 3; b++) {
            line(true, 13, 0, b, 0);
        }
        line(false, 13, 0, 4, 0);
        for (int b : FAR) {
            line(false, 13, 0, b, 0);
        }
        // The capacity is a number, no OPERAND: 0 is not variable 0.
        for (int b = 0; b <= 3; b++) {
            look(Program.ended("FUNC 0; SET v0 #1; SET v1 #2; SET v2 #3; SET v3 #1; MAKE v4 " + b + "; LOOP #1; SEND v4 #1; END; END"),
                    "state=4 channel(1)=" + b);
        }
    }

    private static void valueOperands() {
        about("20 PRINT a OPERAND a");
        printsIt("PRINT @");
        about("21 SET a b VAR a becomes OPERAND b");
        printsIt("SET v3 @; PRINT v3");
        about("22 ADD a b c VAR a becomes b + c (OPERANDs)");
        printsIt("ADD v3 @ #0; PRINT v3");
        printsIt("ADD v3 #0 @; PRINT v3");
        about("23 SUB a b c b - c");
        printsIt("SUB v3 @ #0; PRINT v3");
        prints("SUB v3 -1 @; PRINT v3", value -> "" + (-1 - value));
        about("24 MUL a b c b * c");
        printsIt("MUL v3 @ #1; PRINT v3");
        printsIt("MUL v3 #1 @; PRINT v3");
        about("25 DIV a b c b / c");
        printsIt("DIV v3 @ #1; PRINT v3");
        prints("IF @; DIV v3 2147483647 @; PRINT v3; END", value -> value == 0 ? "" : "" + 2147483641 / value);
        about("18 PANIC a OPERAND a");
        printsIt("DEFER 3; PANIC @");
        about("10 SEND a b OPERANDs channel a, value b");
        printsIt("SEND #1 @; RECV v3 #1 v4; PRINT v3");
        about("7 CASESEND a b OPERANDs channel a, value b");
        printsIt("SELECT; CASESEND #1 @; END; RECV v3 #1 v4; PRINT v3");
        about("14 GO a b c starts function a as a goroutine");
        printsIt("GO 1 @ #9; SLEEP #0");
        printsIt("GO 2 #9 @; SLEEP #0");
        about("15 CALL a b c calls function a");
        printsIt("CALL 1 @ #9");
        printsIt("CALL 2 #9 @");
        about("16 DEFER a b c function a is called when this activation leaves");
        printsIt("DEFER 1 @ #9");
        printsIt("DEFER 2 #9 @");
    }

    private static void comparedOperands() {
        about("26 LESS a b c 1 if b is less than c, else 0");
        prints("LESS v3 @ #41; PRINT v3", value -> value < 41 ? "1" : "0");
        prints("LESS v3 #41 @; PRINT v3", value -> 41 < value ? "1" : "0");
        prints("LESS v3 @ -2147483648; PRINT v3", value -> "0");
        prints("LESS v3 -2147483648 @; PRINT v3", value -> value == LEAST ? "0" : "1");
        prints("LESS v3 @ 2147483647; PRINT v3", value -> value == 2147483641 ? "0" : "1");
        about("27 SAME a b c 1 if b equals c, else 0");
        prints("SAME v3 @ #41; PRINT v3", value -> value == 41 ? "1" : "0");
        prints("SAME v3 #42 @; PRINT v3", value -> value == 42 ? "1" : "0");
        prints("SAME v3 @ -2147483648; PRINT v3", value -> value == LEAST ? "1" : "0");
        prints("SAME v3 #0 @; PRINT v3", value -> value == 0 ? "1" : "0");
    }

    /** Of the channels that are made first only 2 serves: the lines must meet it just when the operand's value is 2. */
    private static void meets(String makes, String lines, int otherEnd) {
        for (int v = 0; v < 6; v++) {
            String begin = "FUNC 0;" + makes + ";";
            for (int w = 0; w < 6; w++) {
                begin += "SET v" + w + (w == v ? " #2;" : " #0;");
            }
            for (int operand : OPERANDS) {
                boolean met = operand == v || operand == 8;
                ends(met ? EXITED : otherEnd, met ? "1" : "", begin + lines.replace("@", "" + operand) + "; PRINT #1; END");
            }
        }
    }

    private static void channelOperands() {
        String withRoom = "MAKE v0 0; MAKE v0 1";
        about("10 SEND a b OPERANDs channel a, value b");
        meets(withRoom, "SEND @ #3", STUCK);
        about("7 CASESEND a b OPERANDs channel a, value b");
        meets(withRoom, "SELECT; CASESEND @ #3; END", STUCK);
        String withValue = "MAKE v0 1; MAKE v0 1; SEND v0 #5";
        about("11 RECV a b c VAR a, OPERAND channel b, VAR c");
        meets(withValue, "RECV v3 @ v4", STUCK);
        about("8 CASERECV a b c VAR a, OPERAND channel b, VAR c");
        meets(withValue, "SELECT; CASERECV v3 @ v4; END", STUCK);
        about("12 CLOSE a OPERAND channel a");
        meets("MAKE v0 1; CLOSE v0; MAKE v0 1", "CLOSE @", PANICKED);
    }

    private static void conditionOperands() {
        about("2 IF a OPERAND a");
        prints("IF @; PRINT #1; ELSE; PRINT #0; END", value -> value == 0 ? "0" : "1");
        about("4 LOOP a OPERAND a");
        prints("LOOP @; PRINT #1; BREAK; END; PRINT #2", value -> value == 0 ? "2" : "1 2");
    }

    private static void timeOperands() {
        about("28 SLEEP a OPERAND a 29 AFTER a OPERAND a");
        for (int operand : OPERANDS) {
            long want = Math.max(0, valueOf(operand));
            String set = "FUNC 0; SET v0 #40; SET v1 #41; SET v2 #42; SET v3 #43; SET v4 #44; SET v5 #45;";
            due("clock() after SLEEP " + operand, want, Program.ended(set + "SLEEP " + operand + "; END").clock());
            due("clock() after AFTER " + operand, want, Program.ended(set + "SELECT; AFTER " + operand + "; END; END").clock());
        }
    }

    /** Each variable can be the one that is set, and no other changes. */
    private static void sets(String lines, int value) {
        for (int v = 0; v < 6; v++) {
            Counted x = Program.ended("FUNC 0; SET v0 #40; SET v1 #41; SET v2 #42; SET v3 #43; SET v4 #44; SET v5 #45;"
                    + lines.replace("@", "v" + v) + "; SELECT; END; END");
            for (int w = 0; w < 6; w++) {
                due("variable(0, " + w + ") after " + lines + " of " + v, w == v ? value : 40 + w, x.variable(0, w));
            }
        }
    }

    private static void variableRows() {
        about("19 RECOVER a VAR a");
        sets("RECOVER @", 0);
        about("21 SET a b VAR a becomes OPERAND b");
        sets("SET @ #7", 7);
        about("22 ADD a b c VAR a becomes b + c (OPERANDs)");
        sets("ADD @ #7 #2", 9);
        about("23 SUB a b c b - c");
        sets("SUB @ #7 #2", 5);
        about("24 MUL a b c b * c");
        sets("MUL @ #7 #2", 14);
        about("25 DIV a b c b / c");
        sets("DIV @ #7 #2", 3);
        about("26 LESS a b c 1 if b is less than c, else 0");
        sets("LESS @ #2 #7", 1);
        about("27 SAME a b c 1 if b equals c, else 0");
        sets("SAME @ #7 #7", 1);
        about("13 MAKE a b VAR a, capacity b = 0..3");
        sets("MAKE @ 1", 1);
        about("11 RECV a b c VAR a, OPERAND channel b, VAR c");
        receives("RECV");
        about("8 CASERECV a b c VAR a, OPERAND channel b, VAR c");
        receives("SELECT; CASERECV");
    }

    private static void receives(String begin) {
        String end = begin.startsWith("SELECT") ? "; END" : "";
        for (int a = 0; a < 6; a++) {
            for (int c = 0; c < 6; c++) {
                Counted x = Program.ended("FUNC 0; MAKE v0 1; SEND v0 #7; SET v0 #40; SET v1 #41; SET v2 #42; SET v3 #43;"
                        + "SET v4 #44; SET v5 #45;" + begin + " v" + a + " #1 v" + c + end + "; SELECT; END; END");
                for (int w = 0; w < 6; w++) {
                    due("variable(0, " + w + ") after " + begin + " " + a + " " + c, w == c ? 1 : w == a ? 7 : 40 + w, x.variable(0, w));
                }
            }
        }
    }

    private static void plainRows() {
        about("1 END ends FUNC, IF, LOOP, SELECT");
        check(OK, -1, "FUNC 0; IF #0; LOOP #0; SELECT; END; END; END; END");
        check(FORM, 7, "FUNC 0; IF #0; LOOP #0; SELECT; END; END; END");
        check(FORM, 8, "FUNC 0; IF #0; LOOP #0; SELECT; END; END; END; END; END");
        about("3 ELSE");
        ends(EXITED, "2", "FUNC 0; IF #0; PRINT #1; ELSE; PRINT #2; END; END");
        about("17 RETURN");
        ends(EXITED, "1", "FUNC 0; PRINT #1; RETURN; PRINT #2; END");
        about("5 BREAK");
        ends(EXITED, "1 3", "FUNC 0; LOOP #1; PRINT #1; BREAK; PRINT #2; END; PRINT #3; END");
        about("6 SELECT");
        look(ends(STUCK, "1", "FUNC 0; PRINT #1; SELECT; END; PRINT #2; END"), "waitsAt(0)=2");
        about("9 DEFAULT");
        ends(EXITED, "1 2", "FUNC 0; SELECT; DEFAULT; PRINT #1; END; PRINT #2; END");
    }

    private static void functionNumbers() {
        about("GO, CALL, DEFER: a is the number of a function (0..29, 0 the first), b and c are OPERANDs:");
        for (int kind = 14; kind <= 16; kind++) {
            line(false, kind, -1, 0, 0);
            line(true, kind, 0, LEAST, MOST);
            line(true, kind, 29, MOST, LEAST);
            line(false, kind, 30, 0, 0);
            for (int a : FAR) {
                line(false, kind, a, 0, 0);
            }
        }
        // Sixty lines have room for thirty functions, or for 29 and one line: 28 is the last that can be called.
        String others = "FUNC 0; END;".repeat(27);
        for (String start : new String[] {"GO", "CALL", "DEFER"}) {
            check(OK, -1, "FUNC 0;" + start + " 28; END;" + others + "FUNC 0; END");
            check(CALLEE, 1, "FUNC 0;" + start + " 29; END;" + others + "FUNC 0; END");
            check(OK, -1, "FUNC 0;" + start + " 0; END");
            check(CALLEE, 1, "FUNC 0;" + start + " 1; END");
        }
        String empty = "FUNC 0; END;".repeat(25);
        ends(EXITED, "8", "FUNC 0; CALL 27; END;" + empty + "FUNC 0; PRINT #7; END; FUNC 0; PRINT #8; END");
        ends(EXITED, "7", "FUNC 0; CALL 26; END;" + empty + "FUNC 0; PRINT #7; END; FUNC 0; PRINT #8; END");
        ends(EXITED, "1 2", "FUNC 0; CALL 1; CALL 2; END; FUNC 0; PRINT #1; END; FUNC 0; PRINT #2; END");
        ends(EXITED, "7 7", "FUNC 1; PRINT #7; IF v0; ELSE; CALL 0 #1; END; END; FUNC 0; PRINT #8; END");
    }

    /** The called one sleeps, so that its variables can be looked at. */
    private static void given(int g, int parameters, String start, int steps) {
        String text = "FUNC 0; SET v2 #41; SET v3 #42;" + start + " 1 v2 v3; SLEEP #0; END; FUNC " + parameters + "; SLEEP #9; END";
        look(after(steps, text), "variable(" + g + ",0)=" + (parameters > 0 ? 41 : 0) + " variable(" + g + ",1)=" + (parameters > 1 ? 42 : 0)
                + " variable(" + g + ",2)=0 variable(" + g + ",3)=0 variable(" + g + ",4)=0 variable(" + g + ",5)=0");
    }

    private static void givenOperands() {
        about("the first as many of them as the function has parameters become its variables 0 and 1.");
        for (int parameters = 0; parameters <= 2; parameters++) {
            given(1, parameters, "GO", 4);
            given(0, parameters, "CALL", 4);
            given(0, parameters, "DEFER", 5);
        }
    }
}
