/** Promise 1: a new object. */
public final class NewObjectTest {
    public static void main(String[] args) {
        Answers answers = new Answers();
        Counted x = new Counted();
        answers.due("badLine()", -1, x.badLine());
        answers.due("printed()", 0, x.printed());
        answers.due("panicValue()", 0, x.panicValue());
        answers.due("clock()", 0, x.clock());
        for (int g = -1; g < 13; g++) {
            answers.due("output(" + g + ")", 0, x.output(g));
            answers.due("waitsAt(" + g + ")", -1, x.waitsAt(g));
            answers.due("variable(" + g + ", 0)", 0, x.variable(g, 0));
            answers.due("channel(" + g + ")", -1, x.channel(g));
            answers.due("notes(" + g + ")", -1, x.notes(g));
            answers.due("panicking(" + g + ")", 0, x.panicking(g));
        }
        answers.due("run(1)", ChannelProgramRunner.IDLE, x.run(1));
        answers.due("run(200)", ChannelProgramRunner.IDLE, x.run(200));
        answers.due("clear()", 0, x.clear());
        answers.due("check()", ChannelProgramRunner.FORM, x.check());
        answers.due("badLine() without lines", 0, x.badLine());

        answers.due("OK", 0, ChannelProgramRunner.OK);
        answers.due("FORM", 1, ChannelProgramRunner.FORM);
        answers.due("CALLEE", 2, ChannelProgramRunner.CALLEE);
        answers.due("UNSET", 3, ChannelProgramRunner.UNSET);
        answers.due("IDLE", 0, ChannelProgramRunner.IDLE);
        answers.due("RUNNING", 1, ChannelProgramRunner.RUNNING);
        answers.due("EXITED", 2, ChannelProgramRunner.EXITED);
        answers.due("PANICKED", 3, ChannelProgramRunner.PANICKED);
        answers.due("STUCK", 4, ChannelProgramRunner.STUCK);
        answers.due("OVERFLOW", 5, ChannelProgramRunner.OVERFLOW);
        answers.finish();
    }
}
