/** Promise 10: clock, with SLEEP and AFTER. */
public final class TimeTest {
    private static final int RUNNING = ChannelProgramRunner.RUNNING;
    private static final int EXITED = ChannelProgramRunner.EXITED;
    private static final int STUCK = ChannelProgramRunner.STUCK;
    private static final Answers answers = new Answers();
    private static final Runs runs = new Runs(answers);

    public static void main(String[] args) {
        sleeps();
        letsOthersRun();
        wakesInOrder();
        after();
        passesOnlyWhenAllWait();
        grows();
        answers.finish();
    }

    private static void dueClock(long want, int state, String outputs, String text) {
        Counted x = runs.due(state, outputs, text);
        answers.due("clock() of " + text, want, x.clock());
    }

    private static void sleeps() {
        dueClock(5, EXITED, "1", "FUNC 0; SLEEP #5; PRINT #1; END");
        dueClock(12, EXITED, "1 2", "FUNC 0; SLEEP #5; PRINT #1; SLEEP #7; PRINT #2; END");
        dueClock(0, EXITED, "1", "FUNC 0; SLEEP #0; PRINT #1; END");
        dueClock(0, EXITED, "1", "FUNC 0; SLEEP -7; PRINT #1; END");
        dueClock(0, EXITED, "1", "FUNC 0; SLEEP -2147483648; PRINT #1; END");
        Counted x = Program.ready("FUNC 0; GO 1; SLEEP #5; PRINT #1; END; FUNC 0; LOOP #1; END; END");
        x.run(3);
        answers.due("waitsAt(0) when sleeping", 2, x.waitsAt(0));
        x.run(200);
        answers.due("waitsAt(0) while another runs", 2, x.waitsAt(0));
        answers.due("clock() while another runs", 0, x.clock());
        answers.due("waitsAt(1) that runs", -3, x.waitsAt(1));
    }

    private static void letsOthersRun() {
        runs.due(EXITED, "1 5 2 6", "FUNC 0; GO 1; PRINT #1; SLEEP #0; PRINT #2; SLEEP -1; END; FUNC 0; PRINT #5; SLEEP #0; PRINT #6; END");
        // Behind those that are in the queue already.
        runs.due(EXITED, "1 2 3", "FUNC 0; GO 1 #1; GO 1 #2; SLEEP #0; PRINT #3; END; FUNC 1; PRINT v0; END");
        Counted x = Program.ready("FUNC 0; GO 1; SLEEP #0; END; FUNC 0; SLEEP #1; END");
        x.run(3);
        answers.due("waitsAt(0) in the queue", -3, x.waitsAt(0));
    }

    private static void wakesInOrder() {
        runs.due(EXITED, "2 1 3", "FUNC 0; GO 1 #5 #1; GO 1 #3 #2; GO 1 #9 #3; SLEEP #20; END; FUNC 2; SLEEP v0; PRINT v1; END");
        // At the same time: in the order in which they began to wait.
        runs.due(EXITED, "1 2 3 9", "FUNC 0; GO 1 #5 #1; GO 1 #5 #2; GO 1 #5 #3; SLEEP #6; PRINT #9; END; FUNC 2; SLEEP v0; PRINT v1; END");
        runs.due(EXITED, "9", "FUNC 0; GO 1 #5 #1; GO 1 #5 #2; SLEEP #5; PRINT #9; END; FUNC 2; SLEEP v0; PRINT v1; END");
        // Goroutine 2 waits until 5 from the beginning, goroutine 1 until 5 from the time 1 on.
        runs.due(EXITED, "5 4 8", "FUNC 0; GO 1 #1 #4; GO 1 #0 #5; SLEEP #8; PRINT #8; END; FUNC 2; SLEEP v0; SLEEP v1; PRINT v1; END");
        // A goroutine that begins to wait later may have a smaller number.
        runs.due(STUCK, "1 0", "FUNC 0; GO 1; SLEEP #2; SLEEP #4; PRINT #0; SELECT; END; END; FUNC 0; SLEEP #6; PRINT #1; END");
        // A SELECT and a SLEEP of the same moment.
        runs.due(STUCK, "1 2 3", "FUNC 0; GO 1 #1; GO 2 #2; GO 1 #3; SELECT; END; END; FUNC 1; SLEEP #4; PRINT v0; END; FUNC 1; SELECT; AFTER #4; PRINT v0; END; END");
    }

    private static void after() {
        dueClock(7, EXITED, "2 3", "FUNC 0; MAKE v0 0; SELECT; CASERECV v1 v0 v2; PRINT #1; AFTER #7; PRINT #2; END; PRINT #3; END");
        dueClock(7, EXITED, "3", "FUNC 0; MAKE v0 0; SELECT; AFTER #7; CASERECV v1 v0 v2; PRINT #1; END; PRINT #3; END");
        dueClock(0, EXITED, "2", "FUNC 0; SELECT; AFTER #0; PRINT #2; END; END");
        dueClock(1, EXITED, "2", "FUNC 0; SELECT; AFTER #1; PRINT #2; END; END");
        dueClock(1, EXITED, "2", "FUNC 0; SLEEP #1; PRINT #2; END");
        dueClock(9, EXITED, "2", "FUNC 0; SET v3 #9; SELECT; AFTER v3; PRINT #2; END; END");
        // Served before its time: the time is forgotten.
        dueClock(3, STUCK, "1 44", "FUNC 0; MAKE v0 0; GO 1 v0; SLEEP #3; SEND v0 #44; SELECT; END; END; FUNC 1; SELECT; CASERECV v1 v0 v2; PRINT #1; PRINT v1; AFTER #7; PRINT #2; END; SELECT; END; END");
        // After its time it can be served no more.
        dueClock(7, STUCK, "2", "FUNC 0; MAKE v0 0; GO 1 v0; SLEEP #7; SEND v0 #44; PRINT #9; END; FUNC 1; SELECT; CASERECV v1 v0 v2; PRINT #1; AFTER #6; PRINT #2; END; END");
        Counted x = Program.ready("FUNC 0; MAKE v0 0; GO 1 v0; SLEEP #7; SEND v0 #44; PRINT #9; END; FUNC 1; SELECT; CASERECV v1 v0 v2; PRINT #1; AFTER #6; PRINT #2; END; END");
        x.run(5);
        answers.due("waitsAt(1) before the step", -3, x.waitsAt(1));
        answers.due("clock() before the step", 0, x.clock());
        x.run(1);
        answers.due("clock() when all wait", 6, x.clock());
        answers.due("waitsAt(0)", 3, x.waitsAt(0));
        answers.due("waitsAt(1)", -3, x.waitsAt(1));
        // The wait of a SELECT counts from when it begins to wait.
        dueClock(10, EXITED, "2", "FUNC 0; SLEEP #4; SELECT; AFTER #6; PRINT #2; END; END");
    }

    private static void passesOnlyWhenAllWait() {
        // Who is READY runs before the time passes.
        runs.due(EXITED, "5 6 1", "FUNC 0; GO 1; SLEEP #1; PRINT #1; END; FUNC 0; PRINT #5; SLEEP #0; PRINT #6; END");
        // The earliest time only; others go on waiting.
        Counted x = Program.ready("FUNC 0; GO 1 #4; GO 1 #8; SLEEP #6; SLEEP #6; END; FUNC 1; SLEEP v0; END");
        x.run(8);
        answers.due("clock() at first", 6, x.clock());
        answers.due("waitsAt(1) at first", -2, x.waitsAt(1));
        answers.due("waitsAt(2) at first", 7, x.waitsAt(2));
        answers.due("waitsAt(0) at first", -3, x.waitsAt(0));
        answers.due("run(1)", EXITED, x.run(1));
        answers.due("clock() at the end", 12, x.clock());
        answers.due("waitsAt(2) at the end", -2, x.waitsAt(2));
        // Stuck only when nobody waits until some time.
        dueClock(3, STUCK, "1", "FUNC 0; GO 1; SELECT; END; END; FUNC 0; SLEEP #3; PRINT #1; END");
    }

    private static void grows() {
        long most = 2147483647L - 6;
        dueClock(3 * most, EXITED, "", "FUNC 0; SLEEP 2147483647; SLEEP 2147483647; SELECT; AFTER 2147483647; END; END");
        Counted x = Program.ready("FUNC 0; LOOP #1; SLEEP 2147483647; END; END");
        answers.due("run(1)", RUNNING, x.run(1));
        answers.due("run(200)", RUNNING, x.run(200));
        answers.due("clock() after a hundred", 100 * most, x.clock());
    }
}
