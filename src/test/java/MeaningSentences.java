/** Terms: MEANING, apart from channels and SELECT. */
final class MeaningSentences extends Sentences {
    @Override
    void all() {
        wraps();
        activations();
        goroutineNumbers();
        readyAndWaiting();
        goesOn();
        newAtTheEnd();
        wokenAtTheEnd();
        loops();
        ifs();
        makes();
        starts();
        divides();
        quotients();
    }

    private static void result(int want, String line) {
        ends(EXITED, "" + want, "FUNC 0; SET v5 #3;" + line + "; PRINT v5; END");
    }

    private static void wraps() {
        about("MEANING. Ints have 32 bits and wrap.");
        String most = "SUB v0 #0 -2147483647;";
        result(MOST, most + "SET v5 v0");
        result(LEAST, most + "ADD v5 v0 #1");
        result(-2, most + "ADD v5 v0 v0");
        result(LEAST, "ADD v5 -2147483647 -1");
        result(MOST, "ADD v5 -2147483648 -1");
        result(0, "ADD v5 -2147483648 -2147483648");
        result(MOST, "SUB v5 -2147483648 #1");
        result(LEAST, "SUB v5 -2147483647 #1");
        result(LEAST, "SUB v5 #0 -2147483648");
        result(LEAST, most + "SUB v5 v0 -1");
        result(LEAST, "MUL v5 -2147483648 -1");
        result(0, "MUL v5 -2147483648 #2");
        result(1, most + "MUL v5 v0 v0");
        result(0, "MUL v5 #65536 #65536");
        result(LEAST, "MUL v5 #65536 #32768");
        result(-1, "MUL v5 #65537 #65535");
        result(LEAST, "DIV v5 -2147483648 -1");
        result(1, "LESS v5 -2147483648 2147483647");
        result(0, "LESS v5 2147483647 -2147483648");
        result(1, most + "ADD v1 v0 #1; LESS v5 v1 v0");
        // 2147483648 does not fit: it has become the least int.
        result(1, most + "ADD v1 v0 #1; SAME v5 v1 -2147483648");
        panics(LEAST, "", "FUNC 0;" + most + "ADD v0 v0 #1; PANIC v0; END");
    }

    private static void activations() {
        about("An activation of a function has its variables, parameters given, the others 0.");
        String fills = "FUNC 2; SET v0 #1; SET v1 #2; SET v2 #3; SET v3 #4; SET v4 #5; SET v5 #6; END;";
        // The called ones stand where another activation has just left all its variables set.
        for (int parameters = 0; parameters <= 2; parameters++) {
            String rest = "; END;" + fills + "FUNC " + parameters + "; SLEEP #9; END";
            String dues = "variable(0,0)=" + (parameters > 0 ? 41 : 0) + " variable(0,1)=" + (parameters > 1 ? 42 : 0)
                    + " variable(0,2)=0 variable(0,3)=0 variable(0,4)=0 variable(0,5)=0";
            look(after(9, "FUNC 0; CALL 1 #7 #8; CALL 2 #41 #42" + rest), "variable(0,0)=0");
            look(after(11, "FUNC 0; CALL 1 #7 #8; CALL 2 #41 #42" + rest), dues);
            look(after(11, "FUNC 0; CALL 1 #7 #8; DEFER 2 #41 #42" + rest), dues);
        }
        // So has each of the 48 that there can be at once.
        Counted x = ends(STUCK, "", TWELVE_DEEP);
        for (int g = 0; g < 12; g++) {
            look(x, "variable(" + g + ",0)=0 variable(" + g + ",1)=" + (12 - g) + " variable(" + g + ",2)=0 variable(" + g + ",5)=" + (12 - g));
        }
        // A new one of goroutine 0, up to its fourth, leaves those of goroutine 1 alone.
        look(ends(STUCK, "", "FUNC 0; GO 1 #7 #8; SLEEP #0; CALL 2; SELECT; END; END; FUNC 2; SET v5 #9; SELECT; END; END;"
                + "FUNC 0; CALL 3; END; FUNC 0; CALL 4 #1 #1; END; FUNC 2; SET v0 #1; SET v5 #1; END"), "variable(1,0)=7 variable(1,1)=8 variable(1,2)=0 variable(1,5)=9");
        // A caller's variables are its own.
        ends(EXITED, "40 41 45", "FUNC 0; SET v0 #40; SET v1 #41; SET v5 #45; CALL 1 #1 #2; PRINT v0; PRINT v1; PRINT v5; END;" + fills);
    }

    private static void goroutineNumbers() {
        about("Goroutines are numbered 0 (function 0, its parameters 0), 1, .. in the order in which they are started.");
        ends(EXITED, "0 0", "FUNC 2; PRINT v0; PRINT v1; END; FUNC 0; PRINT #9; END");
        look(Program.ready("FUNC 2; END"), "variable(0,0)=0 variable(0,1)=0 waitsAt(0)=-3 waitsAt(1)=-1");
        Counted x = Program.ready("FUNC 0; SET v0 #0; LOOP #1; ADD v0 v0 #1; GO 1 v0; END; END; FUNC 1; END");
        step(x, 2);
        for (int n = 1; n <= 11; n++) {
            look(x, "waitsAt(" + (n - 1) + ")=-3 waitsAt(" + n + ")=-1 variable(" + n + ",0)=0 notes(" + n + ")=-1");
            step(x, 3);
            look(x, "state=1 waitsAt(" + n + ")=-3 variable(" + n + ",0)=" + n + " notes(" + n + ")=0");
        }
        look(x, "waitsAt(12)=-1");
        // One that has ended keeps its number.
        ends(EXITED, "", "FUNC 0; GO 1 #5; SLEEP #0; GO 1 #6; END; FUNC 1; END");
        look(Program.ended("FUNC 0; GO 1 #5; SLEEP #0; GO 1 #6; END; FUNC 1; END"), "waitsAt(1)=-2 waitsAt(2)=-3 variable(2,0)=6 variable(1,0)=0");
    }

    private static void readyAndWaiting() {
        about("One is running; others are READY, in a queue, or WAITING.");
        Counted x = after(3, "FUNC 0; GO 1; GO 1; SELECT; END; END; FUNC 0; SLEEP #0; SELECT; END; END");
        look(x, "waitsAt(0)=-3 waitsAt(1)=-3 waitsAt(2)=-3");
        step(x, 1);
        look(x, "waitsAt(0)=3 waitsAt(1)=-3 waitsAt(2)=-3");
        step(x, 5);
        look(x, "state=1 waitsAt(0)=3 waitsAt(1)=8 waitsAt(2)=-3");
        step(x, 1);
        look(x, "state=4 waitsAt(0)=3 waitsAt(1)=8 waitsAt(2)=8");
    }

    private static void goesOn() {
        about("The running one goes on until it ends or waits; then the first of the queue runs.");
        ends(EXITED, "1 2 3", "FUNC 0; GO 1; PRINT #1; PRINT #2; PRINT #3; END; FUNC 0; PRINT #9; END");
        ends(STUCK, "1 2 9", "FUNC 0; GO 1; PRINT #1; PRINT #2; SELECT; END; END; FUNC 0; PRINT #9; END");
        ends(EXITED, "1 11 12 21 22 2", "FUNC 0; GO 1 #10; GO 1 #20; PRINT #1; SLEEP #5; PRINT #2; END;"
                + "FUNC 1; ADD v0 v0 #1; PRINT v0; ADD v0 v0 #1; PRINT v0; END");
        // Serving another one is no reason to stop.
        ends(EXITED, "1 2 9", "FUNC 0; MAKE v0 0; GO 1 v0; SLEEP #0; SEND v0 #1; PRINT #1; PRINT #2; SLEEP #0; END; FUNC 1; RECV v1 v0 v2; PRINT #9; END");
    }

    private static void newAtTheEnd() {
        about("GO puts the new goroutine at the end of the queue.");
        ends(EXITED, "1 2 3 4 5", "FUNC 0; GO 1 #1; GO 1 #2; GO 1 #3; SLEEP #1; END;"
                + "FUNC 1; PRINT v0; LESS v1 v0 #3; IF v1; ADD v0 v0 #3; GO 1 v0; END; END");
        // All twelve: eleven in the queue.
        ends(EXITED, "1 2 3 4 5 6 7 8 9 10 11", "FUNC 0; SET v0 #0; LOOP #1; ADD v0 v0 #1; GO 1 v0; SAME v1 v0 #11; IF v1; BREAK; END; END;"
                + "SLEEP #0; END; FUNC 1; PRINT v0; END");
    }

    private static void wokenAtTheEnd() {
        about("Whoever stops WAITING is put there too.");
        // 1 waits; 2 serves it and starts 3 before, 4 after that.
        ends(EXITED, "2 3 1 4", "FUNC 0; MAKE v0 0; GO 1 v0; GO 2 v0; SLEEP #1; END; FUNC 1; RECV v1 v0 v2; PRINT #1; END;"
                + "FUNC 1; PRINT #2; GO 3 #3; SEND v0 #1; GO 3 #4; END; FUNC 1; PRINT v0; END");
        ends(EXITED, "2 3 1 4", "FUNC 0; MAKE v0 0; GO 1 v0; GO 2 v0; SLEEP #1; END; FUNC 1; SEND v0 #1; PRINT #1; END;"
                + "FUNC 1; PRINT #2; GO 3 #3; RECV v1 v0 v2; GO 3 #4; END; FUNC 1; PRINT v0; END");
        ends(EXITED, "2 3 1 4", "FUNC 0; MAKE v0 0; GO 1 v0; GO 2 v0; SLEEP #1; END; FUNC 1; RECV v1 v0 v2; PRINT #1; END;"
                + "FUNC 1; PRINT #2; GO 3 #3; CLOSE v0; GO 3 #4; END; FUNC 1; PRINT v0; END");
    }

    private static void loops() {
        about("LOOP a: if a is not 0, its lines are executed and then the LOOP line again; else on past its END.");
        ends(EXITED, "9", "FUNC 0; LOOP #0; PRINT #1; END; PRINT #9; END");
        for (String a : new String[] {"#1", "#2", "-1", "-2147483648", "2147483647"}) {
            ends(EXITED, "1 9", "FUNC 0; LOOP " + a + "; PRINT #1; BREAK; END; PRINT #9; END");
        }
        for (int n = 0; n <= 3; n++) {
            ends(EXITED, "3 2 1 ".substring(6 - 2 * n) + "9",
                    "FUNC 0; SET v0 #" + n + "; LOOP v0; PRINT v0; SUB v0 v0 #1; END; PRINT #9; END");
        }
        // The LOOP line is executed again: without lines it is all that is.
        Counted x = Program.ready("FUNC 0; LOOP #1; END; PRINT #1; END");
        due("run(200) of an empty LOOP", RUNNING, x.run(200));
        look(x, "printed=0 waitsAt(0)=-3");
        ends(EXITED, "1", "FUNC 0; LOOP #0; END; PRINT #1; END");
    }

    private static void ifs() {
        about("IF: if a is not 0 the first part, else the part after ELSE (if any).");
        for (String a : new String[] {"#1", "#2", "-1", "-2147483648", "2147483647"}) {
            ends(EXITED, "1 9", "FUNC 0; IF " + a + "; PRINT #1; ELSE; PRINT #2; END; PRINT #9; END");
            ends(EXITED, "1 9", "FUNC 0; IF " + a + "; PRINT #1; END; PRINT #9; END");
            ends(EXITED, "9", "FUNC 0; IF " + a + "; ELSE; PRINT #2; END; PRINT #9; END");
        }
        ends(EXITED, "2 9", "FUNC 0; IF #0; PRINT #1; ELSE; PRINT #2; END; PRINT #9; END");
        ends(EXITED, "9", "FUNC 0; IF #0; PRINT #1; END; PRINT #9; END");
        ends(EXITED, "9", "FUNC 0; IF #0; PRINT #1; ELSE; END; PRINT #9; END");
        // The ELSE of an inner IF is not the outer one's.
        ends(EXITED, "9", "FUNC 0; IF #0; IF #0; ELSE; PRINT #1; END; END; PRINT #9; END");
        ends(EXITED, "2", "FUNC 0; IF #0; IF #0; ELSE; PRINT #1; END; ELSE; PRINT #2; END; END");
    }

    private static void makes() {
        about("MAKE: panic -4 if 8 channels were made already.");
        for (int n = 7; n <= 9; n++) {
            String text = "FUNC 0;" + "MAKE v0 0;".repeat(n) + "PRINT v0; END";
            if (n <= 8) {
                look(ends(EXITED, "" + n, text), "channel(" + n + ")=0 channel(" + (n + 1) + ")=-1");
            } else {
                look(panics(-4, "", text), "channel(8)=0 channel(9)=-1");
            }
        }
        // Closing gives none back, nor does the end of who made them.
        panics(-4, "8", "FUNC 0; SET v0 #0; SET v1 #8; LOOP v1; MAKE v0 3; CLOSE v0; SUB v1 v1 #1; END; PRINT v0; MAKE v0 0; PRINT #9; END");
        panics(-4, "", "FUNC 0; SET v1 #8; LOOP v1; GO 1; SLEEP #0; SUB v1 v1 #1; END; MAKE v0 0; PRINT #9; END; FUNC 0; MAKE v0 0; END");
        ends(EXITED, "-4 7", "FUNC 0; CALL 1; END; FUNC 0; SET v1 #8; LOOP v1; MAKE v0 0; SUB v1 v1 #1; END; DEFER 2; MAKE v0 0; PRINT #9; END;"
                + "FUNC 0; RECOVER v0; PRINT v0; PRINT #7; END");
        Counted x = after(12, "FUNC 0; DEFER 1;" + "MAKE v0 0;".repeat(8) + "SET v0 #5; MAKE v0 0; END; FUNC 0; SLEEP #1; END");
        look(x, "panicking(0)=1 channel(8)=0 channel(9)=-1");
        staysAsItWas("SET v1 #8; LOOP v1; MAKE v2 0; SUB v1 v1 #1; END;", "MAKE v0 0");
    }

    /** The fourth activation panics, and cannot call its note: the program ends with that activation's variables to be seen. */
    private static void staysAsItWas(String before, String line) {
        look(ends(OVERFLOW, "", "FUNC 0; CALL 1; END; FUNC 0; CALL 2; END; FUNC 0; CALL 3; END; FUNC 0; DEFER 4;" + before + "SET v0 #5;"
                + line + "; END; FUNC 0; END"), "panicking(0)=1 notes(0)=1 variable(0,0)=5");
    }

    private static void starts() {
        about("GO: panic -2 if 12 goroutines were started already (0 among them).");
        for (int n = 10; n <= 12; n++) {
            String text = "FUNC 0;" + "GO 1;".repeat(n) + "PRINT #1; END; FUNC 0; END";
            if (n <= 11) {
                look(ends(EXITED, "1", text), "waitsAt(" + n + ")=-3 waitsAt(" + (n + 1) + ")=-1");
            } else {
                look(panics(-2, "", text), "waitsAt(11)=-3 waitsAt(12)=-1 waitsAt(0)=-2");
            }
        }
        // Those that have ended count.
        look(panics(-2, "11", "FUNC 0; SET v0 #0; LOOP #1; GO 1; SLEEP #0; ADD v0 v0 #1; SAME v1 v0 #11; IF v1; PRINT v0; END; END; END; FUNC 0; END"),
                "waitsAt(11)=-2 waitsAt(12)=-1");
        // It is the one that executes the GO that panics.
        look(panics(-2, "", "FUNC 0;" + "GO 1;".repeat(11) + "SLEEP #0; PRINT #9; END; FUNC 0; GO 2; END; FUNC 0; END"), "waitsAt(0)=-3 waitsAt(1)=-2");
    }

    private static void divides() {
        about("DIV by 0: panic -3;");
        for (String b : new String[] {"#0", "#1", "-1", "-2147483648", "2147483647"}) {
            panics(-3, "", "FUNC 0; DIV v0 " + b + " #0; PRINT v0; END");
            panics(-3, "", "FUNC 0; SET v1 #0; DIV v0 " + b + " v1; PRINT v0; END");
        }
        result(8, "DIV v5 #8 #1");
        result(-8, "DIV v5 #8 -1");
        result(0, "DIV v5 #0 #1");
        result(0, "DIV v5 #0 -1");
        staysAsItWas("", "DIV v0 #1 #0");
        ends(EXITED, "-3 0", "FUNC 0; CALL 1; RECOVER v0; PRINT v0; END; FUNC 0; DEFER 2; DIV v0 #1 #0; PRINT #9; END; FUNC 0; RECOVER v0; PRINT v0; END");
    }

    private static void quotients() {
        about("the quotient is cut off towards zero.");
        for (int b = -7; b <= 7; b++) {
            for (int c = -3; c <= 3; c++) {
                if (c != 0) {
                    int size = Math.abs(b) / Math.abs(c);
                    result(b < 0 == c < 0 ? size : -size, "DIV v5 #" + b + " #" + c);
                }
            }
        }
        result(-1073741824, "DIV v5 -2147483648 #2");
        result(1, "DIV v5 -2147483648 -2147483648");
        result(0, "DIV v5 2147483647 -2147483648");
        result(-1, "DIV v5 -2147483648 2147483647");
        result(LEAST, "DIV v5 -2147483648 #1");
    }
}
