/** Terms: LEAVING. */
final class LeavingSentences extends Sentences {
    private static final String PRINTS = "FUNC 2; PRINT v0; PRINT v1; END;";
    private static final String RECOVERS = "FUNC 0; SET v0 #9; RECOVER v0; PRINT v0; END;";

    @Override
    void all() {
        notes();
        threeNotes();
        leaves();
        callsNotes();
        panicsOn();
        panicked();
        newPanic();
        recovers();
        recoversNothing();
        exits();
        justEnds();
        stuck();
        overflows();
        notTakenOff();
    }

    private static void notes() {
        about("LEAVING. DEFER notes the function with the values of its OPERANDs in this activation;");
        // The values of then, not of later.
        ends(EXITED, "9 4 5", "FUNC 0; SET v0 #4; SET v1 #5; DEFER 1 v0 v1; SET v0 #9; SET v1 #8; PRINT v0; END;" + PRINTS);
        ends(EXITED, "-1 2147483641", "FUNC 0; DEFER 1 -1 2147483647; END;" + PRINTS);
        // In this activation: another one of the same function has none of them.
        Counted x = after(4, "FUNC 0; DEFER 1 #1 #2; CALL 2; SLEEP #1; END;" + PRINTS + "FUNC 0; SLEEP #1; END");
        look(x, "notes(0)=0");
        step(x, 1);
        look(x, "notes(0)=1");
        // The same line can note more than once.
        ends(EXITED, "1 9 2 9 3 9", "FUNC 0; SET v0 #3; LOOP v0; DEFER 1 v0 #9; SUB v0 v0 #1; END; END;" + PRINTS);
    }

    private static void threeNotes() {
        about("panic -5 if it notes 3 already.");
        for (int n = 0; n <= 4; n++) {
            String text = "FUNC 0;" + "DEFER 1;".repeat(n) + "PRINT #1; END; FUNC 0; PRINT #3; END";
            if (n <= 3) {
                ends(EXITED, "1" + " 3".repeat(n), text);
            } else {
                panics(-5, "3 3 3", text);
            }
        }
        Counted x = Program.ready("FUNC 0;" + "DEFER 1;".repeat(4) + "PRINT #1; END; FUNC 0; END");
        step(x, 1);
        for (int n = 0; n < 3; n++) {
            look(x, "notes(0)=" + n);
            step(x, 1);
        }
        look(x, "notes(0)=3 panicking(0)=0");
        step(x, 1);
        look(x, "notes(0)=0 panicking(0)=1");
        // Each activation has its own three, a note's too.
        ends(EXITED, "3 3 3 8 3 3 3", "FUNC 0;" + "DEFER 1;".repeat(3) + "CALL 2; PRINT #8; END; FUNC 0; PRINT #3; END; FUNC 0;" + "DEFER 1;".repeat(3) + "END");
        ends(EXITED, "3 3 3 3 3", "FUNC 0;" + "DEFER 1;".repeat(2) + "DEFER 2; END; FUNC 0; PRINT #3; END; FUNC 0;" + "DEFER 1;".repeat(3) + "END");
        // So has each of the 48 that there can be at once, and each note its values.
        Counted all = ends(STUCK, "", TWELVE_DEEP);
        for (int g = 0; g < 12; g++) {
            look(all, "notes(" + g + ")=3");
        }
        Counted many = Program.ended("FUNC 0; SET v0 #0; LOOP #1; ADD v0 v0 #1; GO 1 v0; SAME v1 v0 #11; IF v1; BREAK; END; END; CALL 1 #12; SLEEP #1; END;"
                + "FUNC 1; MUL v1 v0 #10; DEFER 2 v1; ADD v1 v1 #1; DEFER 2 v1; ADD v1 v1 #1; DEFER 2 v1; SLEEP #1; END; FUNC 1; PRINT v0; END");
        look(many, "state=2 printed=36");
        for (int k = 0; k < 32; k++) {
            look(many, "output(" + k + ")=" + ((11 - k / 3) * 10 + k % 3));
        }
        // It can be recovered: the first of the three notes that is called does.
        ends(EXITED, "-5 0 0 7", "FUNC 0; CALL 1; PRINT #7; END; FUNC 0;" + "DEFER 2;".repeat(4) + "PRINT #1; END;" + RECOVERS);
    }

    private static void leaves() {
        about("When an activation comes to RETURN or the END of its function, it leaves:");
        ends(EXITED, "1 2", "FUNC 0; CALL 1; PRINT #2; END; FUNC 0; PRINT #1; RETURN; PRINT #9; END");
        ends(EXITED, "1 2", "FUNC 0; CALL 1; PRINT #2; END; FUNC 0; PRINT #1; END");
        ends(EXITED, "2", "FUNC 0; CALL 1; PRINT #2; END; FUNC 0; END");
        ends(EXITED, "1 2", "FUNC 0; CALL 1; PRINT #2; END; FUNC 0; LOOP #1; SELECT; DEFAULT; IF #1; PRINT #1; RETURN; END; END; END; PRINT #9; END");
        // Not at the END of anything else.
        ends(EXITED, "1 2", "FUNC 0; IF #1; PRINT #1; END; PRINT #2; END");
    }

    private static void callsNotes() {
        about("while it has notes, the latest is taken off and its function called;");
        for (String end : new String[] {"", "RETURN;"}) {
            ends(EXITED, "9", "FUNC 0; PRINT #9;" + end + "END;" + PRINTS);
            ends(EXITED, "9 1 2", "FUNC 0; DEFER 1 #1 #2; PRINT #9;" + end + "END;" + PRINTS);
            ends(EXITED, "9 5 6 3 4 1 2", "FUNC 0; DEFER 1 #1 #2; DEFER 1 #3 #4; DEFER 1 #5 #6; PRINT #9;" + end + "END;" + PRINTS);
        }
        Counted x = after(5, "FUNC 0; DEFER 1; CALL 2; SLEEP #1; END; FUNC 0; SLEEP #1; END; FUNC 0; SLEEP #1; END");
        look(x, "clock=1 notes(0)=1");
        step(x, 1);
        look(x, "clock=2 notes(0)=0 state=1");
        about("when there are none left, its caller goes on after the CALL.");
        ends(EXITED, "7 3 4 1 2 8", "FUNC 0; CALL 2; PRINT #8; END;" + PRINTS + "FUNC 0; DEFER 1 #1 #2; DEFER 1 #3 #4; PRINT #7; END");
        ends(EXITED, "7 8 7 8 9", "FUNC 0; SET v0 #2; LOOP v0; CALL 1; PRINT #8; SUB v0 v0 #1; END; PRINT #9; END; FUNC 0; PRINT #7; END");
        ends(EXITED, "7 8", "FUNC 0; IF #1; CALL 1; ELSE; PRINT #6; END; PRINT #8; END; FUNC 0; PRINT #7; END");
    }

    private static void panicsOn() {
        about("A panic (by PANIC a, or as above) makes the running activation panic with a value:");
        for (String a : new String[] {"#0", "#1", "-1", "-2147483648", "2147483647"}) {
            int value = a.startsWith("#") ? Integer.parseInt(a.substring(1)) : a.startsWith("-") ? Integer.parseInt(a) : 2147483641;
            panics(value, "1", "FUNC 0; PRINT #1; PANIC " + a + "; PRINT #2; END");
            ends(EXITED, "" + value, "FUNC 0; DEFER 1; PANIC " + a + "; PRINT #2; END; FUNC 0; RECOVER v0; PRINT v0; END");
        }
        String[] lines = {"CLOSE #0", "MAKE v0 0; CLOSE v0; SEND v0 #1", "MAKE v0 0; CLOSE v0; SELECT; CASESEND v0 #1; END", "DIV v0 #1 #0",
            "GO 2;".repeat(12), "MAKE v0 0;".repeat(9), "DEFER 2; DEFER 2; DEFER 2"};
        int[] values = {-1, -1, -1, -3, -2, -4, -5};
        for (int i = 0; i < lines.length; i++) {
            String text = "FUNC 0; DEFER 1;" + lines[i] + "; PRINT #2; END; FUNC 0; RECOVER v0; PRINT v0; END; FUNC 0; END";
            ends(EXITED, "" + values[i], text);
            panics(values[i], "", text.replace("RECOVER v0; PRINT v0;", ""));
        }
        about("it leaves in the same way, but when there are no notes left, its caller (the activation below it) panics with the same value;");
        panics(7, "3 4 1 2", "FUNC 0; DEFER 1 #1 #2; DEFER 1 #3 #4; PANIC #7; PRINT #9; END;" + PRINTS);
        panics(7, "5 6 3 4 1 2", "FUNC 0; DEFER 1 #1 #2; CALL 2; PRINT #9; END;" + PRINTS + "FUNC 0; DEFER 1 #3 #4; CALL 3; PRINT #9; END;"
                + "FUNC 0; DEFER 1 #5 #6; PANIC #7; PRINT #9; END");
        // Through all four activations, as the deepest has no note.
        panics(7, "3 4 1 2", "FUNC 0; DEFER 1 #1 #2; CALL 2; PRINT #9; END;" + PRINTS + "FUNC 0; DEFER 1 #3 #4; CALL 3; PRINT #9; END;"
                + "FUNC 0; CALL 4; PRINT #9; END; FUNC 0; PANIC #7; END");
        // Its notes are its own affair: a function that a note calls is no note.
        panics(7, "1", "FUNC 0; DEFER 1; PANIC #7; END; FUNC 0; CALL 2; END; FUNC 0; PRINT #1; END");
    }

    private static void panicked() {
        about("without a caller the program ends with PANICKED.");
        look(panics(7, "", "FUNC 0; PANIC #7; END"), "waitsAt(0)=-2 notes(0)=-1 panicking(0)=0 variable(0,0)=0");
        // In another goroutine too, whatever the others do.
        look(panics(7, "1", "FUNC 0; GO 1; GO 2; PRINT #1; SLEEP #5; PRINT #2; END; FUNC 0; PANIC #7; END; FUNC 0; PRINT #3; END"),
                "waitsAt(0)=4 waitsAt(1)=-2 waitsAt(2)=-3 clock=0");
        panics(7, "1", "FUNC 0; GO 1; PRINT #1; SLEEP #0; PRINT #2; END; FUNC 0; CALL 2; END; FUNC 0; PANIC #7; END");
    }

    private static void newPanic() {
        about("A panic in an activation that was called by a leaving one makes that one panic with the new value (it then still calls its other notes).");
        panics(8, "", "FUNC 0; DEFER 1; END; FUNC 0; PANIC #8; END");
        panics(8, "", "FUNC 0; DEFER 1; PANIC #7; END; FUNC 0; PANIC #8; END");
        panics(8, "3 4 1 2", "FUNC 0; DEFER 1 #1 #2; DEFER 1 #3 #4; DEFER 2; PANIC #7; END;" + PRINTS + "FUNC 0; PANIC #8; END");
        panics(8, "3 4 1 2", "FUNC 0; DEFER 1 #1 #2; DEFER 1 #3 #4; DEFER 2; RETURN; END;" + PRINTS + "FUNC 0; PANIC #8; END");
        panics(10, "", "FUNC 0; DEFER 3; DEFER 2; DEFER 1; PANIC #7; END; FUNC 0; PANIC #8; END; FUNC 0; PANIC #9; END; FUNC 0; PANIC #10; END");
        ends(EXITED, "8", "FUNC 0; DEFER 1; DEFER 2; PANIC #7; END; FUNC 0; RECOVER v0; PRINT v0; END; FUNC 0; PANIC #8; END");
        ends(EXITED, "8", "FUNC 0; DEFER 1; DEFER 2; END; FUNC 0; RECOVER v0; PRINT v0; END; FUNC 0; PANIC #8; END");
        // After a recovery it may panic anew.
        panics(8, "7", "FUNC 0; DEFER 2; DEFER 1; PANIC #7; END; FUNC 0; RECOVER v0; PRINT v0; END; FUNC 0; PANIC #8; END");
        // Recovered above it, the new panic never comes down.
        panics(7, "8", "FUNC 0; DEFER 1; PANIC #7; END; FUNC 0; DEFER 2; PANIC #8; END; FUNC 0; RECOVER v0; PRINT v0; END");
        ends(EXITED, "8 5", "FUNC 0; DEFER 1; PRINT #8; END; FUNC 0; DEFER 2; PANIC #8; END; FUNC 0; RECOVER v0; PRINT #5; END");
    }

    private static void recovers() {
        about("RECOVER a: if this activation was called as a note by one that panics, VAR a becomes the panic's value,");
        ends(EXITED, "7", "FUNC 0; DEFER 1; PANIC #7; END;" + RECOVERS);
        ends(EXITED, "-1 8", "FUNC 0; GO 1; SLEEP #0; PRINT #8; END; FUNC 0; DEFER 2; PANIC -1; END;" + RECOVERS);
        ends(EXITED, "7 8", "FUNC 0; CALL 1; PRINT #8; END; FUNC 0; DEFER 2; CALL 3; PRINT #9; END;" + RECOVERS + "FUNC 0; PANIC #7; END");
        // The panic's value may be 0.
        ends(EXITED, "0 8", "FUNC 0; CALL 1; PRINT #8; END; FUNC 0; DEFER 2; PANIC #0; END;" + RECOVERS);
        about("and that one leaves without panic from now on;");
        ends(EXITED, "7 8", "FUNC 0; CALL 1; PRINT #8; END; FUNC 0; DEFER 2; PANIC #7; PRINT #9; END;" + RECOVERS);
        ends(EXITED, "7 0 0 8", "FUNC 0; CALL 1; PRINT #8; END; FUNC 0; DEFER 2; DEFER 2; DEFER 2; PANIC #7; END;" + RECOVERS);
        ends(EXITED, "7 0", "FUNC 0; DEFER 1; PANIC #7; END; FUNC 0; RECOVER v0; PRINT v0; RECOVER v0; PRINT v0; END");
        Counted x = after(4, "FUNC 0; DEFER 1; PANIC #7; END; FUNC 0; RECOVER v0; SLEEP #1; END");
        look(x, "panicking(0)=1 variable(0,0)=0");
        step(x, 1);
        look(x, "panicking(0)=0 variable(0,0)=7 state=1");
        // Only the one below, not those further down.
        panics(7, "8", "FUNC 0; DEFER 1; PANIC #7; END; FUNC 0; DEFER 2; PANIC #8; END; FUNC 0; RECOVER v0; PRINT v0; END");
    }

    private static void recoversNothing() {
        about("else VAR a becomes 0.");
        ends(EXITED, "0", "FUNC 0; SET v0 #9; RECOVER v0; PRINT v0; END");
        ends(EXITED, "0", "FUNC 0; CALL 1; END;" + RECOVERS);
        ends(EXITED, "0", "FUNC 0; DEFER 1; END;" + RECOVERS);
        ends(EXITED, "0 8", "FUNC 0; GO 1; SLEEP #0; PRINT #8; END;" + RECOVERS);
        // Called by the note of one that panics, or as a note of that note.
        panics(7, "0", "FUNC 0; DEFER 2; PANIC #7; END;" + RECOVERS + "FUNC 0; CALL 1; END");
        panics(7, "0", "FUNC 0; DEFER 2; PANIC #7; END;" + RECOVERS + "FUNC 0; DEFER 1; END");
        // Started as a goroutine by the note of one that panics, which goes on panicking meanwhile.
        ends(STUCK, "0", "FUNC 0; GO 2; SELECT; END; END;" + RECOVERS + "FUNC 0; DEFER 3; PANIC #7; END; FUNC 0; GO 1; SELECT; END; END");
    }

    private static void exits() {
        about("When goroutine 0 has no activation left, the program ends with EXITED.");
        look(ends(EXITED, "", "FUNC 0; END"), "waitsAt(0)=-2 notes(0)=-1 variable(0,0)=0 panicking(0)=0");
        // Not while a note of it is still to be called, or waits.
        look(after(3, "FUNC 0; DEFER 1; END; FUNC 0; PRINT #1; END"), "state=1 printed=0");
        look(after(4, "FUNC 0; DEFER 1; END; FUNC 0; PRINT #1; END"), "state=2 printed=1");
        look(ends(STUCK, "", "FUNC 0; DEFER 1; END; FUNC 0; SELECT; END; END"), "waitsAt(0)=4");
        // Whatever the others do: READY, waiting, sleeping.
        look(ends(EXITED, "", "FUNC 0; GO 1; GO 2; SLEEP #0; GO 3; END; FUNC 0; SELECT; END; END; FUNC 0; SLEEP #9; END; FUNC 0; PRINT #1; END"),
                "waitsAt(0)=-2 waitsAt(1)=7 waitsAt(2)=11 waitsAt(3)=-3 clock=0");
    }

    private static void justEnds() {
        about("Another goroutine just ends.");
        look(ends(EXITED, "1 2", "FUNC 0; GO 1; SLEEP #0; PRINT #2; END; FUNC 0; PRINT #1; END"), "waitsAt(1)=-2 notes(1)=-1 variable(1,0)=0 panicking(1)=0");
        look(ends(EXITED, "7 2", "FUNC 0; GO 1; SLEEP #0; PRINT #2; END; FUNC 0; DEFER 2; PANIC #7; END;" + RECOVERS), "waitsAt(1)=-2 panicValue=0");
    }

    private static void stuck() {
        about("If the running one ends or waits, the queue is empty and none waits until some time, the program ends with STUCK.");
        look(ends(STUCK, "", "FUNC 0; SELECT; END; END"), "waitsAt(0)=1");
        // The running one ends, and all others wait.
        look(ends(STUCK, "1", "FUNC 0; GO 1; SELECT; END; END; FUNC 0; PRINT #1; END"), "waitsAt(0)=2 waitsAt(1)=-2");
        // One is in the queue: not yet.
        Counted x = after(3, "FUNC 0; GO 1; SELECT; END; END; FUNC 0; END");
        look(x, "state=1 waitsAt(0)=2 waitsAt(1)=-3");
        step(x, 1);
        look(x, "state=4 waitsAt(0)=2 waitsAt(1)=-2");
        // One waits until some time: not yet.
        Counted y = after(4, "FUNC 0; GO 1; SELECT; END; END; FUNC 0; SLEEP #3; SELECT; END; END");
        look(y, "state=1 clock=0");
        step(y, 1);
        look(y, "state=1 clock=3 waitsAt(0)=2 waitsAt(1)=-3");
        step(y, 1);
        look(y, "state=4 clock=3 waitsAt(0)=2 waitsAt(1)=7");
        Counted z = after(2, "FUNC 0; SELECT; AFTER #3; END; SELECT; END; END");
        look(z, "state=1 clock=3 waitsAt(0)=-3");
        step(z, 1);
        look(z, "state=4 clock=3 waitsAt(0)=4");
        // A channel that nobody serves; two that wait for each other.
        ends(STUCK, "", "FUNC 0; MAKE v0 0; MAKE v1 0; GO 1 v0 v1; RECV v2 v0 v3; SEND v1 #1; END; FUNC 2; RECV v2 v1 v3; SEND v0 #1; END");
    }

    /** Function n + 1 is called by function n, down to the fourth activation. */
    private static String deep(String lines, String rest) {
        return "FUNC 0; CALL 1; PRINT #1; END; FUNC 0; CALL 2; PRINT #2; END; FUNC 0; CALL 3; PRINT #3; END; FUNC 0;" + lines + "END;" + rest;
    }

    private static void overflows() {
        about("A CALL or a note's call when the goroutine has 4 activations ends the program with OVERFLOW");
        String empty = "FUNC 0; PRINT #5; END";
        // The fourth is allowed, a fifth is not.
        ends(EXITED, "4 3 2 1", deep("PRINT #4;", empty));
        look(ends(OVERFLOW, "4", deep("PRINT #4; SET v0 #6; CALL 4; PRINT #8;", empty)), "waitsAt(0)=-3 notes(0)=0 variable(0,0)=6 panicking(0)=0 panicValue=0");
        ends(OVERFLOW, "4", deep("PRINT #4; DEFER 4;", empty));
        // From the third activation both can be done.
        ends(EXITED, "5 2 1", "FUNC 0; CALL 1; PRINT #1; END; FUNC 0; CALL 2; PRINT #2; END; FUNC 0; CALL 3; END;" + empty);
        ends(EXITED, "5 2 1", "FUNC 0; CALL 1; PRINT #1; END; FUNC 0; CALL 2; PRINT #2; END; FUNC 0; DEFER 3; END;" + empty);
        // A leaving one counts until its notes are called; notes of notes go as deep as calls.
        ends(EXITED, "1 2 3", "FUNC 0; DEFER 1; END; FUNC 0; PRINT #1; DEFER 2; END; FUNC 0; PRINT #2; DEFER 3; END; FUNC 0; PRINT #3; END; FUNC 0; END");
        ends(OVERFLOW, "1 2 3", "FUNC 0; DEFER 1; END; FUNC 0; PRINT #1; DEFER 2; END; FUNC 0; PRINT #2; DEFER 3; END; FUNC 0; PRINT #3; DEFER 4; END; FUNC 0; END");
        // Each goroutine has its own four.
        ends(EXITED, "4 9", "FUNC 0; CALL 1; END; FUNC 0; CALL 2; END; FUNC 0; CALL 3; END; FUNC 0; GO 4; SLEEP #0; PRINT #9; END;"
                + "FUNC 0; CALL 5; END; FUNC 0; CALL 6; END; FUNC 0; CALL 7; END; FUNC 0; PRINT #4; END");
        look(ends(OVERFLOW, "", "FUNC 0; GO 1; SLEEP #3; END; FUNC 0; CALL 1; END"), "waitsAt(0)=2 waitsAt(1)=-3 clock=0");
        // Many calls one after the other are no depth.
        ends(EXITED, "8", "FUNC 0; SET v0 #9; LOOP v0; CALL 1; SUB v0 v0 #1; END; PRINT #8; END; FUNC 0; CALL 2; END; FUNC 0; CALL 3; END; FUNC 0; END");
    }

    private static void notTakenOff() {
        about("(the note is not taken off then).");
        String empty = "FUNC 0; PRINT #5; END";
        for (int n = 1; n <= 3; n++) {
            look(ends(OVERFLOW, "", deep("DEFER 4;".repeat(n), empty)), "notes(0)=" + n + " panicking(0)=0");
            look(ends(OVERFLOW, "", deep("DEFER 4;".repeat(n) + "RETURN;", empty)), "notes(0)=" + n + " panicking(0)=0");
            look(ends(OVERFLOW, "", deep("DEFER 4;".repeat(n) + "PANIC #7;", empty)), "notes(0)=" + n + " panicValue=0");
        }
    }
}
