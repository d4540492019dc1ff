/** Terms: STEPS. */
final class StepSentences extends Sentences {
    @Override
    void all() {
        countsLines();
        beginsWithFunc();
        movesOn();
        standsWhere();
        nextOfTheQueue();
        beginsWithPanic();
    }

    private static void steps(int want, String text) {
        Counted x = Program.ready(text);
        int count = 0;
        while (count < 400 && x.run(0) == RUNNING) {
            x.run(1);
            count++;
        }
        due("steps of " + text, want, count);
        // In one run of so many steps, and one fewer does not do.
        Counted y = Program.ready(text);
        due("run(" + want + ") of " + text, x.run(0), y.run(want));
        if (want > 1) {
            due("run(" + (want - 1) + ") of " + text, RUNNING, Program.ready(text).run(want - 1));
        }
    }

    private static void countsLines() {
        about("STEPS: each execution of a line other than ELSE and END is a step;");
        steps(1, "FUNC 0; END");
        String[] single = {"MAKE v0 0", "GO 1", "DEFER 2", "RETURN", "PANIC #1", "RECOVER v0", "PRINT #1", "SET v0 #1", "ADD v0 #1 #1", "SUB v0 #1 #1",
            "MUL v0 #1 #1", "DIV v0 #1 #1", "DIV v0 #1 #0", "LESS v0 #1 #1", "SAME v0 #1 #1", "SLEEP #1", "SLEEP #0", "CLOSE #0", "SEND #0 #1",
            "RECV v0 #0 v0", "IF #0; PRINT #1; END", "IF #1; END", "IF #1; ELSE; PRINT #1; END", "IF #0; PRINT #1; ELSE; END", "LOOP #0; PRINT #1; END",
            "SELECT; END", "SELECT; DEFAULT; END", "SELECT; AFTER #0; END", "SELECT; AFTER #1; END"};
        for (String line : single) {
            // A note's FUNC line is one more step.
            steps(line.startsWith("DEFER") ? 3 : 2, "FUNC 0;" + line + "; END; FUNC 0; END; FUNC 0; END");
        }
        steps(3, "FUNC 0; IF #1; PRINT #1; ELSE; PRINT #2; PRINT #3; END; END");
        steps(4, "FUNC 0; IF #0; PRINT #1; ELSE; PRINT #2; PRINT #3; END; END");
        steps(3, "FUNC 0; LOOP #1; BREAK; END; END");
        // Each execution: LOOP and SUB three times, LOOP once more.
        steps(9, "FUNC 0; SET v0 #3; LOOP v0; SUB v0 v0 #1; END; END");
        steps(12, "FUNC 0; SET v0 #3; LOOP v0; IF #1; SUB v0 v0 #1; ELSE; END; END; END");
        steps(3, "FUNC 0; SELECT; DEFAULT; PRINT #1; END; END");
        steps(3, "FUNC 0; MAKE v0 1; SELECT; CASESEND v0 #1; END; END");
        steps(4, "FUNC 0; MAKE v0 1; SELECT; CASERECV v1 v0 v2; PRINT #1; CASESEND v0 #1; PRINT #2; END; END");
        steps(5, "FUNC 0; GO 1; SELECT; END; END; FUNC 0; PRINT #1; END");
    }

    private static void beginsWithFunc() {
        about("an activation begins with its FUNC line (which does nothing).");
        steps(3, "FUNC 0; CALL 1; END; FUNC 0; END");
        steps(5, "FUNC 0; CALL 1; CALL 1; END; FUNC 0; END");
        steps(5, "FUNC 0; DEFER 1; DEFER 1; END; FUNC 0; END");
        steps(4, "FUNC 0; GO 1; SLEEP #0; END; FUNC 0; END");
        Counted x = Program.ready("FUNC 2; PRINT #1; END");
        look(x, "state=1 waitsAt(0)=-3 notes(0)=0 printed=0");
        step(x, 1);
        look(x, "state=1 waitsAt(0)=-3 notes(0)=0 printed=0 variable(0,0)=0");
        step(x, 1);
        look(x, "state=2 printed=1");
        // The parameters are there before the FUNC line is executed.
        look(after(2, "FUNC 0; CALL 1 #5; END; FUNC 1; END"), "state=1 variable(0,0)=5");
        look(after(2, "FUNC 0; GO 1 #5; SELECT; END; END; FUNC 1; END"), "state=1 variable(1,0)=5");
    }

    private static void movesOn() {
        about("Within the step the running goroutine then moves on to its next line that is neither ELSE nor END, leaving functions as far as that asks for,");
        // All four activations leave within the step of the last line.
        String down = "FUNC 0; CALL 1; END; FUNC 0; CALL 2; END; FUNC 0; CALL 3; END; FUNC 0; PRINT #1; END";
        steps(8, down);
        Counted x = after(7, down);
        look(x, "state=1 printed=0 waitsAt(0)=-3 notes(0)=0");
        step(x, 1);
        look(x, "state=2 printed=1 waitsAt(0)=-2 notes(0)=-1");
        // Only as far as there is no line to execute, and no note to call.
        Counted y = after(8, "FUNC 0; SET v0 #1; CALL 1; END; FUNC 0; SET v0 #2; CALL 2; PRINT #1; END; FUNC 0; SET v0 #3; END");
        look(y, "variable(0,0)=2 printed=0 state=1");
        step(y, 1);
        look(y, "printed=1 state=2");
        Counted z = after(7, "FUNC 0; CALL 1; END; FUNC 0; DEFER 3; CALL 2; END; FUNC 0; END; FUNC 0; SLEEP #1; END");
        look(z, "state=1 notes(0)=0");
        // Past the ELSE or the next section, to the END, from whatever line is the last of a part.
        String[] last = {"PRINT #7", "CALL 1", "SLEEP #1", "SLEEP #0", "IF #0; END", "LOOP #0; END", "LOOP #1; BREAK; END", "SELECT; DEFAULT; END", "SELECT; AFTER #1; END",
            "SEND #1 #5", "SELECT; CASESEND #1 #5; END", "GO 1", "DEFER 2", "RECOVER v5"};
        for (String line : last) {
            String printed = line.startsWith("PRINT") || line.startsWith("CALL") ? "7 8" : "8";
            String rest = "; PRINT #8; END; FUNC 0; PRINT #7; END; FUNC 0; END";
            ends(EXITED, printed, "FUNC 0; MAKE v0 1; IF #1;" + line + "; ELSE; PRINT #6; END" + rest);
            ends(EXITED, printed, "FUNC 0; MAKE v0 1; SELECT; DEFAULT;" + line + "; CASESEND #0 #1; PRINT #6; END" + rest);
            ends(EXITED, printed, "FUNC 0; MAKE v0 1; SELECT; CASESEND #0 #1; PRINT #6; AFTER #1;" + line + "; CASERECV v1 #0 v1; PRINT #6; END" + rest);
            ends(EXITED, printed, "FUNC 0; MAKE v0 1; SET v1 #1; LOOP v1; SET v1 #0; IF #0; ELSE;" + line + "; END; END" + rest);
        }
        // A panic goes down within the step, too.
        look(after(6, "FUNC 0; CALL 1; END; FUNC 0; CALL 2; END; FUNC 0; PANIC #7; END"), "state=3 panicValue=7");
        look(after(5, "FUNC 0; CALL 1; END; FUNC 0; CALL 2; END; FUNC 0; PANIC #7; END"), "state=1 panicValue=0 panicking(0)=0");
    }

    private static void standsWhere() {
        about("so that it stands at a FUNC line, at the line after a CALL, in a section and so on, or has ended.");
        // At a FUNC line: the new activation is there after the CALL, after the DEFER's END, after the GO's turn.
        look(after(3, "FUNC 0; SET v5 #1; CALL 1 #4; END; FUNC 1; END"), "variable(0,0)=4 variable(0,5)=0");
        look(after(3, "FUNC 0; SET v5 #1; DEFER 1 #4; END; FUNC 1; END"), "variable(0,0)=4 variable(0,5)=0 notes(0)=0");
        // At the line after a CALL.
        look(after(4, "FUNC 0; SET v5 #1; CALL 1 #4; PRINT #1; END; FUNC 1; END"), "variable(0,0)=0 variable(0,5)=1 printed=0 state=1");
        // In a section.
        Counted x = after(2, "FUNC 0; SELECT; DEFAULT; PRINT #1; END; END");
        look(x, "state=1 printed=0");
        step(x, 1);
        look(x, "state=2 printed=1");
        // Has ended.
        look(after(1, "FUNC 0; END"), "state=2 waitsAt(0)=-2");
    }

    private static void nextOfTheQueue() {
        about("If it ended or waits, the next of the queue becomes the running one within the same step:");
        // The only one sleeps, and in the same step wakes, comes to its END and ends.
        look(after(2, "FUNC 0; SLEEP #5; END"), "state=2 clock=5");
        look(after(3, "FUNC 0; GO 1; SELECT; END; END; FUNC 0; END"), "state=1 waitsAt(0)=2 waitsAt(1)=-3");
        look(after(4, "FUNC 0; GO 1; SELECT; END; END; FUNC 0; END"), "state=4 waitsAt(1)=-2");
        about("else it moves on in the same way from the line at which it waited.");
        // 0 is served but has not moved on: it ends in the step in which 1 lets it run.
        Counted x = after(5, "FUNC 0; MAKE v0 0; GO 1 v0; RECV v1 v0 v2; END; FUNC 1; SEND v0 #5; PRINT #1; SLEEP #0; END");
        look(x, "state=1 waitsAt(0)=3");
        step(x, 1);
        look(x, "state=1 waitsAt(0)=-3 variable(0,1)=5 notes(0)=0");
        step(x, 1);
        look(x, "state=1 waitsAt(0)=-3 printed=1 notes(0)=0");
        step(x, 1);
        look(x, "state=2 waitsAt(0)=-2 waitsAt(1)=-3");
        // Several end one after the other within one step.
        look(after(7, "FUNC 0; GO 1; GO 1; SELECT; END; END; FUNC 0; SLEEP #4; END"), "state=1 clock=0 waitsAt(0)=3 waitsAt(1)=7 waitsAt(2)=-3");
        look(after(8, "FUNC 0; GO 1; GO 1; SELECT; END; END; FUNC 0; SLEEP #4; END"), "state=4 clock=4 waitsAt(0)=3 waitsAt(1)=-2 waitsAt(2)=-2");
        // From the section that was chosen while it waited.
        Counted y = after(2, "FUNC 0; SELECT; AFTER #4; PRINT #1; END; END");
        look(y, "state=1 clock=4 printed=0");
        step(y, 1);
        look(y, "state=2 printed=1");
    }

    private static void beginsWithPanic() {
        about("it begins with panic -1 if a CLOSE said so,");
        String text = "FUNC 0; MAKE v0 0; GO 1 v0; SLEEP #0; CLOSE v0; SLEEP #0; PRINT #1; END; FUNC 1; SEND v0 #1; PRINT #2; END";
        look(after(7, text), "state=1 waitsAt(1)=-3 panicValue=0");
        look(after(8, text), "state=3 waitsAt(1)=-2 waitsAt(0)=-3 panicValue=-1 printed=0");
        // With a note, it stands at the note's FUNC line.
        Counted x = after(9, "FUNC 0; MAKE v0 0; GO 1 v0; SLEEP #0; CLOSE v0; SLEEP #0; PRINT #1; END; FUNC 1; DEFER 2; SEND v0 #1; PRINT #2; END; FUNC 0; PRINT #3; RECOVER v0; END");
        look(x, "state=1 panicking(1)=1 printed=0");
        step(x, 2);
        look(x, "state=1 panicking(1)=1 printed=1 output(0)=3");
        step(x, 1);
        look(x, "state=1 waitsAt(1)=-2 waitsAt(0)=-3 printed=1");
        step(x, 1);
        look(x, "state=2 output(0)=1");
        // The panic comes once: at the next wait it goes on as any other.
        ends(EXITED, "-1 7 8 9", "FUNC 0; MAKE v0 0; GO 1 v0; SLEEP #0; CLOSE v0; SLEEP #9; END; FUNC 1; CALL 2 v0; PRINT #7; SLEEP #0; PRINT #8; SLEEP #1; PRINT #9; END;"
                + "FUNC 1; DEFER 3; SEND v0 #1; END; FUNC 0; RECOVER v0; PRINT v0; END");
    }
}
