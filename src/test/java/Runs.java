/** Runs whole programs and compares how they ended and what they printed. */
final class Runs {
    private final Answers answers;

    Runs(Answers answers) {
        this.answers = answers;
    }

    Counted due(int state, String outputs, String text) {
        Counted x = Program.ended(text);
        answers.due("state of " + text, state, x.run(0));
        String got = Program.outputs(x);
        if (!got.equals(outputs)) {
            System.out.println("printed " + got + ", due is " + outputs);
        }
        answers.due("outputs of " + text, true, got.equals(outputs));
        return x;
    }

    Counted panic(int value, String outputs, String text) {
        Counted x = due(ChannelProgramRunner.PANICKED, outputs, text);
        answers.due("panicValue() of " + text, value, x.panicValue());
        return x;
    }
}
