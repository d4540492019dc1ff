/** Promises 6, 11 and 12 for SELECT. */
public final class SelectTest {
    private static final int EXITED = ChannelProgramRunner.EXITED;
    private static final int STUCK = ChannelProgramRunner.STUCK;
    private static final Answers answers = new Answers();
    private static final Runs runs = new Runs(answers);

    public static void main(String[] args) {
        chooses();
        alternatives();
        isServed();
        isServedOnce();
        isClosed();
        nests();
        answers.finish();
    }

    private static void chooses() {
        // The first case in the order of the lines that would not wait.
        runs.due(EXITED, "2", "FUNC 0; MAKE v0 1; MAKE v1 1; SEND v1 #2; SELECT; CASERECV v2 v0 v3; PRINT #9; CASERECV v2 v1 v3; PRINT v2; CASESEND v0 #1; PRINT #8; END; END");
        runs.due(EXITED, "8 1", "FUNC 0; MAKE v0 1; MAKE v1 1; SEND v1 #2; SELECT; CASERECV v2 v0 v3; PRINT #9; CASESEND v0 #1; PRINT #8; CASERECV v2 v1 v3; PRINT v2; END; RECV v2 v0 v3; PRINT v2; END");
        runs.due(EXITED, "0 0", "FUNC 0; MAKE v0 1; CLOSE v0; SET v1 #5; SET v2 #5; SELECT; DEFAULT; PRINT #9; CASERECV v1 v0 v2; PRINT v1; PRINT v2; END; END");
        runs.panic(-1, "", "FUNC 0; MAKE v0 1; CLOSE v0; SELECT; CASESEND v0 #1; PRINT #1; DEFAULT; PRINT #2; END; END");
        runs.due(EXITED, "3", "FUNC 0; MAKE v0 1; CLOSE v0; SELECT; CASERECV v1 v0 v2; PRINT #3; CASESEND v0 #1; PRINT #1; END; END");
        // Only the chosen case is done.
        Counted x = Program.ready("FUNC 0; MAKE v0 3; MAKE v1 3; SELECT; CASESEND v0 #1; CASESEND v0 #2; CASESEND v1 #3; END; SLEEP #1; END");
        x.run(4);
        answers.due("channel(1)", 1, x.channel(1));
        answers.due("channel(2)", 0, x.channel(2));
        // VAR c is set after VAR a here too.
        runs.due(EXITED, "1", "FUNC 0; MAKE v0 1; SEND v0 #7; SELECT; CASERECV v1 v0 v1; PRINT v1; END; END");
        // A case meets those that wait, in both directions.
        runs.due(EXITED, "5 1", "FUNC 0; MAKE v0 0; GO 1 v0; SLEEP #0; SELECT; CASERECV v1 v0 v2; PRINT v1; PRINT v2; DEFAULT; PRINT #9; END; END; FUNC 1; SEND v0 #5; END");
        runs.due(EXITED, "6 4", "FUNC 0; MAKE v0 0; GO 1 v0; SLEEP #0; SELECT; CASESEND v0 #4; PRINT #6; DEFAULT; PRINT #9; END; SLEEP #0; END; FUNC 1; RECV v1 v0 v2; PRINT v1; END");
        // A SEND or RECV inside a section is no case of the SELECT.
        runs.due(EXITED, "2", "FUNC 0; MAKE v0 1; SELECT; CASERECV v1 v0 v2; SEND v0 #1; PRINT #1; DEFAULT; PRINT #2; END; END");
    }

    private static void alternatives() {
        runs.due(EXITED, "1 3", "FUNC 0; MAKE v0 0; SELECT; DEFAULT; PRINT #1; CASERECV v1 v0 v2; PRINT #2; END; PRINT #3; END");
        runs.due(EXITED, "3", "FUNC 0; SELECT; DEFAULT; END; PRINT #3; END");
        runs.due(EXITED, "1", "FUNC 0; SELECT; AFTER #0; PRINT #1; END; END");
        runs.due(EXITED, "1", "FUNC 0; SELECT; AFTER -5; PRINT #1; END; END");
        runs.due(EXITED, "2", "FUNC 0; MAKE v0 1; SELECT; AFTER #0; PRINT #1; CASESEND v0 #1; PRINT #2; END; END");
        // DEFAULT and AFTER 0 let nobody else run.
        runs.due(EXITED, "1 2", "FUNC 0; GO 1; SELECT; AFTER #0; PRINT #1; END; SELECT; DEFAULT; PRINT #2; END; END; FUNC 0; PRINT #9; END");
        // What a DEFAULT has in a is not looked at.
        runs.due(EXITED, "1", "FUNC 0; SELECT; DEFAULT 20; PRINT #1; END; END");
        Counted x = runs.due(STUCK, "", "FUNC 0; SELECT; END; PRINT #1; END");
        answers.due("waitsAt(0) at an empty SELECT", 1, x.waitsAt(0));
        Counted y = runs.due(STUCK, "", "FUNC 0; MAKE v0 0; SELECT; CASERECV v1 v0 v2; PRINT #1; CASESEND v0 #1; PRINT #2; CASESEND #7 #1; END; END");
        answers.due("waitsAt(0) at a SELECT", 2, y.waitsAt(0));
    }

    private static final String SERVED = "FUNC 0; MAKE v0 0; MAKE v1 0; GO 1 v0 v1; SLEEP #0;";
    private static final String SELECTS = "SLEEP #0; END; FUNC 2; SELECT; CASERECV v2 v0 v3; PRINT #1; PRINT v2; PRINT v3;"
            + "CASESEND v1 #7; PRINT #2; CASERECV v4 v1 v5; PRINT #3; PRINT v4; END; PRINT #5; END";

    private static void isServed() {
        runs.due(EXITED, "1 44 1 5", SERVED + "SEND v0 #44;" + SELECTS);
        runs.due(EXITED, "7 2 5", SERVED + "RECV v2 v1 v3; PRINT v2;" + SELECTS);
        runs.due(EXITED, "3 45 5", SERVED + "SEND v1 #45;" + SELECTS);
        runs.due(EXITED, "1 0 0 5", SERVED + "CLOSE v0;" + SELECTS);
        runs.due(EXITED, "3 0 5", SERVED + "CLOSE v1;" + SELECTS);
        // Of two cases that fit, the first counts.
        String twice = "SLEEP #0; END; FUNC 1; SELECT; CASERECV v1 v0 v2; PRINT #1; CASERECV v1 v0 v2; PRINT #2; END; END";
        runs.due(EXITED, "1", "FUNC 0; MAKE v0 0; GO 1 v0; SLEEP #0; SEND v0 #1;" + twice);
        runs.due(EXITED, "1", "FUNC 0; MAKE v0 0; GO 1 v0; SLEEP #0; CLOSE v0;" + twice);
        runs.due(EXITED, "3 1", "FUNC 0; MAKE v0 0; GO 1 v0; SLEEP #0; RECV v1 v0 v2; PRINT v1; SLEEP #0; END;"
                + "FUNC 1; SELECT; CASESEND v0 #3; PRINT #1; CASESEND v0 #4; PRINT #2; END; END");
        // Its VARs are set at once, its section is entered when it runs.
        Counted x = Program.ready(SERVED + "SEND v0 #44;" + SELECTS);
        x.run(7);
        answers.due("waitsAt(1) when waiting", 9, x.waitsAt(1));
        x.run(1);
        answers.due("waitsAt(1) when served", -3, x.waitsAt(1));
        answers.due("variable(1, 2) when served", 44, x.variable(1, 2));
        answers.due("variable(1, 3) when served", 1, x.variable(1, 3));
        // A SELECT waits in the order of all the others.
        runs.due(EXITED, "1 2 3", "FUNC 0; MAKE v0 0; GO 1 v0 #1; GO 2 v0 #2; GO 1 v0 #3; SLEEP #0; SEND v0 #0; SEND v0 #0; SEND v0 #0; SLEEP #0; END;"
                + "FUNC 2; RECV v2 v0 v3; PRINT v1; END; FUNC 2; SELECT; CASERECV v2 #9 v3; CASERECV v2 v0 v3; PRINT v1; END; END");
        // A waiting CASESEND's value is added to a channel with room again.
        Counted y = runs.due(STUCK, "1 2", "FUNC 0; MAKE v0 1; GO 1 v0; SLEEP #0; RECV v1 v0 v2; PRINT v1; RECV v1 v0 v2; PRINT v1; SELECT; END; END;"
                + "FUNC 1; SEND v0 #1; SELECT; CASESEND v0 #2; END; END");
        answers.due("waitsAt(1) at the end", -2, y.waitsAt(1));
    }

    private static void isServedOnce() {
        // Served by one case, it waits for the others no more.
        Counted x = runs.due(STUCK, "1 44 1 5", SERVED + "SEND v0 #44; SEND v1 #45;" + SELECTS);
        answers.due("waitsAt(0)", 6, x.waitsAt(0));
        answers.due("waitsAt(1)", -2, x.waitsAt(1));
        runs.due(EXITED, "1 44 1 5", SERVED + "SEND v0 #44; CLOSE v0; CLOSE v1;" + SELECTS);
        // Nor for its AFTER.
        Counted y = runs.due(STUCK, "1", "FUNC 0; MAKE v0 0; GO 1 v0; SLEEP #0; SEND v0 #1; SELECT; END; END;"
                + "FUNC 1; SELECT; CASERECV v1 v0 v2; PRINT #1; AFTER #7; PRINT #2; END; SELECT; END; END");
        answers.due("clock()", 0, y.clock());
    }

    private static void isClosed() {
        String doomed = "FUNC 1; DEFER 2; SELECT; CASESEND v0 #1; PRINT #9; END; END; FUNC 0; RECOVER v0; PRINT v0; END";
        runs.due(EXITED, "8 -1", "FUNC 0; MAKE v0 0; GO 1 v0; SLEEP #0; CLOSE v0; PRINT #8; SLEEP #0; END;" + doomed);
        // With a CASERECV on the channel it stops with the receivers, wherever that stands.
        runs.due(EXITED, "2 0", "FUNC 0; MAKE v0 0; GO 1 v0; SLEEP #0; CLOSE v0; SLEEP #0; END;"
                + "FUNC 1; SELECT; CASESEND v0 #1; PRINT #1; CASERECV v1 v0 v2; PRINT #2; PRINT v2; END; END");
        // Senders stop longest first, by SEND or by SELECT.
        runs.due(EXITED, "101 102 103", "FUNC 0; MAKE v0 0; GO 1 v0 #1; GO 2 v0 #2; GO 1 v0 #3; SLEEP #0; CLOSE v0; SLEEP #0; END;"
                + "FUNC 2; DEFER 3 v1; SELECT; CASESEND v0 #1; PRINT #9; END; PRINT #9; END;"
                + "FUNC 2; DEFER 3 v1; SEND v0 #1; PRINT #9; END;"
                + "FUNC 1; RECOVER v1; SUB v0 v0 v1; ADD v0 v0 #99; PRINT v0; END");
    }

    private static void nests() {
        runs.due(EXITED, "1 2 3", "FUNC 0; MAKE v0 1; SELECT; CASESEND v0 #1; PRINT #1; SELECT; CASERECV v1 v0 v2; PRINT #2; DEFAULT; PRINT #8; END; PRINT #3; DEFAULT; PRINT #9; END; END");
        runs.due(EXITED, "4", "FUNC 0; MAKE v0 1; SELECT; CASERECV v1 v0 v2; SELECT; CASESEND v0 #1; PRINT #1; END; DEFAULT; IF #0; PRINT #2; ELSE; PRINT #4; END; END; END");
    }
}
