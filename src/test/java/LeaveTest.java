/** Promises 9, 14 and 15: panicValue, notes, panicking, with LEAVING. */
public final class LeaveTest {
    private static final int RUNNING = ChannelProgramRunner.RUNNING;
    private static final int EXITED = ChannelProgramRunner.EXITED;
    private static final int PANICKED = ChannelProgramRunner.PANICKED;
    private static final int OVERFLOW = ChannelProgramRunner.OVERFLOW;
    private static final Answers answers = new Answers();
    private static final Runs runs = new Runs(answers);

    public static void main(String[] args) {
        notes();
        noteLimit();
        panics();
        recovers();
        recoversNothing();
        newPanics();
        counts();
        overflows();
        answers.finish();
    }

    private static final String PRINTS = "FUNC 2; PRINT v0; PRINT v1; END;";

    private static void notes() {
        runs.due(EXITED, "9 5 6 3 4 1 2", "FUNC 0; DEFER 1 #1 #2; DEFER 1 #3 #4; DEFER 1 #5 #6; PRINT #9; END;" + PRINTS);
        runs.due(EXITED, "1 2", "FUNC 0; DEFER 1 #1 #2; RETURN; PRINT #9; END;" + PRINTS);
        // The values are those of the DEFER.
        runs.due(EXITED, "9 4 4", "FUNC 0; SET v0 #4; DEFER 1 v0 v0; SET v0 #9; PRINT v0; END;" + PRINTS);
        // A function's notes are called when it leaves, before its caller goes on.
        runs.due(EXITED, "7 1 2 8", "FUNC 0; CALL 2; PRINT #8; END;" + PRINTS + "FUNC 0; DEFER 1 #1 #2; PRINT #7; END");
        // Notes of notes.
        runs.due(EXITED, "5 1 2 6 3 4", "FUNC 0; DEFER 2 #3; DEFER 3; END;" + PRINTS
                + "FUNC 1; PRINT #6; PRINT v0; PRINT #4; END; FUNC 0; PRINT #5; DEFER 1 #1 #2; END");
        // Only as many values as parameters.
        Counted x = Program.ready("FUNC 0; DEFER 1 #5 #6; END; FUNC 1; SLEEP #0; END");
        x.run(3);
        answers.due("variable(0, 0) of the note", 5, x.variable(0, 0));
        answers.due("variable(0, 1) of the note", 0, x.variable(0, 1));
        // A note may wait.
        runs.due(EXITED, "1 2 3", "FUNC 0; MAKE v0 0; GO 1 v0; DEFER 2 v0; PRINT #1; END; FUNC 1; PRINT #2; SEND v0 #3; END; FUNC 1; RECV v1 v0 v2; PRINT v1; END");

        Counted y = Program.ready("FUNC 0; DEFER 1; DEFER 1; SLEEP #1; END; FUNC 0; SLEEP #1; END");
        answers.due("notes(0) at first", 0, y.notes(0));
        y.run(2);
        answers.due("notes(0) after one", 1, y.notes(0));
        y.run(1);
        answers.due("notes(0) after two", 2, y.notes(0));
        y.run(1);
        answers.due("notes(0) of the note", 0, y.notes(0));
        answers.due("panicking(0) without panic", 0, y.panicking(0));
        y.run(200);
        answers.due("notes(0) of an ended one", -1, y.notes(0));
        answers.due("notes(1) of none", -1, y.notes(1));
    }

    private static void noteLimit() {
        runs.panic(-5, "3 3 3", "FUNC 0; DEFER 1; DEFER 1; DEFER 1; DEFER 1; PRINT #9; END; FUNC 0; PRINT #3; END");
        // Each activation has its own three.
        runs.due(EXITED, "3 3 3 8 3 3 3", "FUNC 0; DEFER 1; DEFER 1; DEFER 1; CALL 2; PRINT #8; END; FUNC 0; PRINT #3; END;"
                + "FUNC 0; DEFER 1; DEFER 1; DEFER 1; END");
    }

    private static void panics() {
        Counted x = runs.panic(7, "1", "FUNC 0; PRINT #1; PANIC #7; PRINT #2; END");
        answers.due("waitsAt(0)", -2, x.waitsAt(0));
        answers.due("notes(0)", -1, x.notes(0));
        answers.due("panicking(0)", 0, x.panicking(0));
        answers.due("variable(0, 0)", 0, x.variable(0, 0));
        runs.panic(0, "", "FUNC 0; PANIC #0; END");
        runs.panic(-8, "", "FUNC 0; PANIC -8; END");
        // Through the callers, with the notes of each.
        runs.panic(7, "2 1", "FUNC 0; DEFER 1 #1; CALL 2; PRINT #9; END; FUNC 1; PRINT v0; END; FUNC 0; DEFER 1 #2; CALL 3; PRINT #9; END; FUNC 0; PANIC #7; END");
    }

    private static void recovers() {
        // The caller goes on after the CALL.
        runs.due(EXITED, "7 8", "FUNC 0; CALL 1; PRINT #8; END; FUNC 0; DEFER 2; PANIC #7; END; FUNC 0; RECOVER v0; PRINT v0; END");
        // The panicking one's other notes are called all the same; the second RECOVER finds nothing.
        runs.due(EXITED, "7 0 8", "FUNC 0; CALL 1; PRINT #8; END; FUNC 0; DEFER 2; DEFER 2; PANIC #7; PRINT #9; END; FUNC 0; RECOVER v0; PRINT v0; END");
        runs.due(EXITED, "7 0", "FUNC 0; DEFER 1; PANIC #7; END; FUNC 0; RECOVER v0; PRINT v0; RECOVER v0; PRINT v0; END");
        // Recovered one activation further down.
        runs.due(EXITED, "7 8", "FUNC 0; CALL 1; PRINT #8; END; FUNC 0; DEFER 2; CALL 3; PRINT #9; END; FUNC 0; RECOVER v0; PRINT v0; END; FUNC 0; PANIC #7; END");
        // Panics that no PANIC line made are recovered likewise.
        runs.due(EXITED, "-3", "FUNC 0; DEFER 1; DIV v0 #1 #0; END; FUNC 0; RECOVER v0; PRINT v0; END");
        runs.due(EXITED, "-1", "FUNC 0; DEFER 1; CLOSE #0; END; FUNC 0; RECOVER v0; PRINT v0; END");
        // In another goroutine: it just ends.
        runs.due(EXITED, "7 1", "FUNC 0; GO 1; SLEEP #0; PRINT #1; END; FUNC 0; DEFER 2; PANIC #7; END; FUNC 0; RECOVER v0; PRINT v0; END");
    }

    private static void recoversNothing() {
        String recovers = "FUNC 0; SET v0 #5; RECOVER v0; PRINT v0; END;";
        runs.due(EXITED, "0", "FUNC 0; CALL 1; END;" + recovers);
        runs.due(EXITED, "0", "FUNC 0; DEFER 1; END;" + recovers);
        runs.due(EXITED, "0", "FUNC 0; RECOVER v0; PRINT v0; END");
        runs.due(EXITED, "0 1", "FUNC 0; GO 1; SLEEP #0; PRINT #1; END;" + recovers);
        // Not from a function that the note calls.
        runs.panic(7, "0", "FUNC 0; DEFER 2; PANIC #7; END;" + recovers + "FUNC 0; CALL 1; END");
        // Not from a note of the note while the note itself doesn't panic.
        runs.panic(7, "0", "FUNC 0; DEFER 2; PANIC #7; END;" + recovers + "FUNC 0; DEFER 1; END");
        // Not by a note of one called by the panicking one's note, but by the panicking one's next note.
        runs.due(EXITED, "0 7", "FUNC 0; DEFER 1; DEFER 2; PANIC #7; END;" + recovers + "FUNC 0; CALL 1; END");
    }

    private static void newPanics() {
        // A note's panic takes the place of the one that is there.
        runs.panic(8, "", "FUNC 0; DEFER 1; PANIC #7; END; FUNC 0; PANIC #8; END");
        runs.panic(8, "", "FUNC 0; DEFER 1; RETURN; END; FUNC 0; PANIC #8; END");
        runs.panic(8, "", "FUNC 0; DEFER 1; END; FUNC 0; CALL 2; END; FUNC 0; PANIC #8; END");
        // The other notes are still called, and see the new value.
        runs.due(EXITED, "8", "FUNC 0; DEFER 1; DEFER 2; PANIC #7; END; FUNC 0; RECOVER v0; PRINT v0; END; FUNC 0; PANIC #8; END");
        runs.due(EXITED, "8", "FUNC 0; DEFER 1; DEFER 2; END; FUNC 0; RECOVER v0; PRINT v0; END; FUNC 0; PANIC #8; END");
        // A panic after the recovery.
        runs.panic(8, "7", "FUNC 0; DEFER 1; PANIC #7; END; FUNC 0; RECOVER v0; PRINT v0; PANIC #8; END");
        // A note that panics and is recovered by its own note leaves the older panic as it was.
        runs.panic(7, "8", "FUNC 0; DEFER 1; PANIC #7; END; FUNC 0; DEFER 2; PANIC #8; END; FUNC 0; RECOVER v0; PRINT v0; END");
    }

    private static void counts() {
        // 0 panics with 7, its note panics with 8, the note's note sleeps.
        Counted x = Program.ready("FUNC 0; DEFER 1; PANIC #7; END; FUNC 0; DEFER 2; PANIC #8; END; FUNC 0; RECOVER v0; SLEEP #1; END");
        x.run(2);
        answers.due("panicking(0) at first", 0, x.panicking(0));
        answers.due("notes(0) at first", 1, x.notes(0));
        x.run(1);
        answers.due("panicking(0) after PANIC", 1, x.panicking(0));
        answers.due("notes(0) of the note", 0, x.notes(0));
        x.run(2);
        answers.due("panicking(0) in the note", 1, x.panicking(0));
        answers.due("notes(0) of the note after DEFER", 1, x.notes(0));
        x.run(1);
        answers.due("panicking(0) after both", 2, x.panicking(0));
        x.run(2);
        answers.due("panicking(0) after RECOVER", 1, x.panicking(0));
        answers.due("variable(0, 0)", 8, x.variable(0, 0));
        answers.due("panicValue() before the end", 0, x.panicValue());
        answers.due("run(1)", PANICKED, x.run(1));
        answers.due("panicValue()", 7, x.panicValue());
        answers.due("panicking(0) at the end", 0, x.panicking(0));

        // Leaving without panic does not count.
        Counted y = Program.ready("FUNC 0; DEFER 1; END; FUNC 0; SLEEP #1; END");
        y.run(3);
        answers.due("run(0)", RUNNING, y.run(0));
        answers.due("panicking(0) of one that leaves", 0, y.panicking(0));

        // Told of each goroutine by itself.
        Counted z = Program.ready("FUNC 0; GO 1; SLEEP #9; END; FUNC 0; DEFER 2; PANIC #8; END; FUNC 0; SLEEP #4; SLEEP #9; END");
        z.run(7);
        answers.due("panicking(0)", 0, z.panicking(0));
        answers.due("panicking(1)", 1, z.panicking(1));
        answers.due("panicking(2)", 0, z.panicking(2));
    }

    private static void overflows() {
        // Function 1 calls itself down to the fourth activation, which leaves with a note.
        String down = "FUNC 0; CALL 1 #2; END; FUNC 1; IF v0; SUB v0 v0 #1; CALL 1 v0; ELSE; DEFER 2; DEFER 2; SET v5 #6; ";
        Counted x = runs.due(OVERFLOW, "", down + "END; END; FUNC 0; PRINT #9; END");
        answers.due("notes(0) are not taken off", 2, x.notes(0));
        answers.due("variable(0, 5)", 6, x.variable(0, 5));
        answers.due("waitsAt(0)", -3, x.waitsAt(0));
        answers.due("panicking(0)", 0, x.panicking(0));
        Counted y = runs.due(OVERFLOW, "", down + "PANIC #3; END; END; FUNC 0; PRINT #9; END");
        answers.due("notes(0) of a panic", 2, y.notes(0));
        answers.due("panicking(0) of a panic", 1, y.panicking(0));
        answers.due("panicValue() of OVERFLOW", 0, y.panicValue());
        // Without notes the fourth activation leaves as any other.
        runs.due(EXITED, "5 1", "FUNC 0; CALL 1 #2; PRINT #1; END; FUNC 1; IF v0; SUB v0 v0 #1; CALL 1 v0; ELSE; PRINT #5; END; END");
        // The leaving ones count among the four.
        runs.due(OVERFLOW, "1 2 3", "FUNC 0; DEFER 1; END; FUNC 0; PRINT #1; DEFER 2; END; FUNC 0; PRINT #2; DEFER 3; END; FUNC 0; PRINT #3; DEFER 3; END");
        // Other goroutines are as they were.
        Counted z = runs.due(OVERFLOW, "", "FUNC 0; GO 1; SLEEP #5; END; FUNC 0; CALL 1; END");
        answers.due("waitsAt(0)", 2, z.waitsAt(0));
        answers.due("waitsAt(1)", -3, z.waitsAt(1));
    }
}
