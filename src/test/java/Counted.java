/** An object and how often it has been called: the document promises nothing after the 512th call, so no test asks for it. */
final class Counted {
    private static final int PROMISED = 512;

    private final ChannelProgramRunner x = new ChannelProgramRunner();
    private int calls = 0;

    private ChannelProgramRunner next() {
        calls++;
        if (calls > PROMISED) {
            throw new IllegalStateException("more than " + PROMISED + " calls of one object");
        }
        return x;
    }

    /** How many calls are left. */
    int left() {
        return PROMISED - calls;
    }

    boolean line(int kind, int a, int b, int c) {
        return next().line(kind, a, b, c);
    }

    int clear() {
        return next().clear();
    }

    int check() {
        return next().check();
    }

    int badLine() {
        return next().badLine();
    }

    int run(int steps) {
        return next().run(steps);
    }

    int printed() {
        return next().printed();
    }

    int output(int k) {
        return next().output(k);
    }

    int panicValue() {
        return next().panicValue();
    }

    long clock() {
        return next().clock();
    }

    int waitsAt(int g) {
        return next().waitsAt(g);
    }

    int variable(int g, int v) {
        return next().variable(g, v);
    }

    int channel(int ch) {
        return next().channel(ch);
    }

    int notes(int g) {
        return next().notes(g);
    }

    int panicking(int g) {
        return next().panicking(g);
    }
}
