import java.util.function.Supplier;
import java.util.regex.Matcher;
import java.util.regex.Pattern;

/** What the tests of single sentences share: each quotes the words of the document that it is about. */
abstract class Sentences {
    static final int OK = ChannelProgramRunner.OK;
    static final int FORM = ChannelProgramRunner.FORM;
    static final int CALLEE = ChannelProgramRunner.CALLEE;
    static final int UNSET = ChannelProgramRunner.UNSET;
    static final int IDLE = ChannelProgramRunner.IDLE;
    static final int RUNNING = ChannelProgramRunner.RUNNING;
    static final int EXITED = ChannelProgramRunner.EXITED;
    static final int PANICKED = ChannelProgramRunner.PANICKED;
    static final int STUCK = ChannelProgramRunner.STUCK;
    static final int OVERFLOW = ChannelProgramRunner.OVERFLOW;
    static final int MOST = 2147483647;
    static final int LEAST = -2147483648;
    /** Numbers outside every range of the document. */
    static final int[] FAR = {LEAST, LEAST + 1, -100, 100, MOST - 1, MOST};

    /** Twelve goroutines wait, each in its fourth activation with three notes; the variables 1 and 5 of goroutine g are 12 - g. */
    static final String TWELVE_DEEP = "FUNC 0; SET v0 #11; LOOP v0; GO 1 #3 v0; SUB v0 v0 #1; END; CALL 1 #2 #12; END;"
            + "FUNC 2; SET v5 v1; DEFER 2; DEFER 2; DEFER 2; IF v0; SUB v0 v0 #1; CALL 1 v0 v1; ELSE; SELECT; END; END; END; FUNC 0; END";

    static final Answers answers = new Answers();
    static final Document document = new Document();
    private static final Pattern DUE = Pattern.compile("(\\w+)(?:\\((-?\\d+)(?:,(-?\\d+))?\\))?=(-?\\d+)");
    private static String words = "";

    abstract void all();

    static void about(String quote) {
        words = quote;
        if (document.isAtHand()) {
            answers.due("quoted and not found: " + quote, true, document.quote(quote));
        }
    }

    static void due(String what, long want, long got) {
        answers.due(want == got ? "" : "\"" + words + "\": " + what, want, got);
    }

    static void due(String what, boolean want, boolean got) {
        due(what, want ? 1 : 0, got ? 1 : 0);
    }

    static void line(boolean want, int kind, int a, int b, int c) {
        due("line(" + kind + ", " + a + ", " + b + ", " + c + ")", want, new Counted().line(kind, a, b, c));
    }

    static void check(int want, int bad, String text) {
        Counted x = Program.fed(text);
        due("check() of " + text, want, x.check());
        due("badLine() of " + text, bad, x.badLine());
    }

    /** The same for lines inside function 0, whose FUNC is line 0. */
    static void inside(int want, int bad, String lines) {
        check(want, bad, "FUNC 0;" + lines + ";END");
    }

    static Counted ends(int state, String outputs, String text) {
        Counted x = Program.ended(text);
        due("state of " + text, state, x.run(0));
        String got = Program.outputs(x);
        due("[" + got + "] printed, due is [" + outputs + "] by " + text, true, got.equals(outputs));
        return x;
    }

    static Counted panics(int value, String outputs, String text) {
        Counted x = ends(PANICKED, outputs, text);
        due("panicValue() of " + text, value, x.panicValue());
        return x;
    }

    /** The program after so many steps, made one by one. */
    static Counted after(int steps, String text) {
        Counted x = Program.ready(text);
        step(x, steps);
        return x;
    }

    static void step(Counted x, int steps) {
        for (int i = 0; i < steps; i++) {
            x.run(1);
        }
    }

    /** Asks what is written like this: waitsAt(0)=-3 variable(0,5)=7 state=1. */
    static void look(Counted x, String dues) {
        for (String part : dues.trim().split("\\s+")) {
            Matcher m = DUE.matcher(part);
            if (!m.matches()) {
                throw new IllegalStateException("not understood: " + part);
            }
            int first = m.group(2) == null ? 0 : Integer.parseInt(m.group(2));
            int second = m.group(3) == null ? 0 : Integer.parseInt(m.group(3));
            due(part + " among " + dues, Long.parseLong(m.group(4)), ask(x, m.group(1), first, second));
        }
    }

    private static long ask(Counted x, String call, int first, int second) {
        switch (call) {
            case "state": return x.run(0);
            case "badLine": return x.badLine();
            case "printed": return x.printed();
            case "output": return x.output(first);
            case "panicValue": return x.panicValue();
            case "clock": return x.clock();
            case "waitsAt": return x.waitsAt(first);
            case "variable": return x.variable(first, second);
            case "channel": return x.channel(first);
            case "notes": return x.notes(first);
            case "panicking": return x.panicking(first);
            default: throw new IllegalStateException("no call " + call);
        }
    }

    /** Two that must answer the same after each number of steps, until they end or up to so many steps; each time they are made anew. */
    static void same(String what, int steps, Supplier<Counted> made, Supplier<Counted> like) {
        int state = RUNNING;
        for (int i = 1; i <= steps && state == RUNNING; i++) {
            Counted x = made.get();
            Counted y = like.get();
            state = y.run(i);
            due(what + ": run(" + i + ")", state, x.run(i));
            alike(what + ", " + i + " steps", x, y);
        }
    }

    static void alike(String what, Counted x, Counted y) {
        due(what + ": printed()", y.printed(), x.printed());
        due(what + ": panicValue()", y.panicValue(), x.panicValue());
        due(what + ": clock()", y.clock(), x.clock());
        for (int g = 0; g < 12; g++) {
            due(what + ": output(" + g + ")", y.output(g), x.output(g));
            due(what + ": channel(" + g + ")", y.channel(g), x.channel(g));
            due(what + ": waitsAt(" + g + ")", y.waitsAt(g), x.waitsAt(g));
            due(what + ": notes(" + g + ")", y.notes(g), x.notes(g));
            due(what + ": panicking(" + g + ")", y.panicking(g), x.panicking(g));
            for (int v = 0; v < 6; v++) {
                due(what + ": variable(" + g + "," + v + ")", y.variable(g, v), x.variable(g, v));
            }
        }
    }

    static void idle(Counted x) {
        look(x, "state=0 printed=0 output(0)=0 output(31)=0 panicValue=0 clock=0 waitsAt(0)=-1 waitsAt(1)=-1 waitsAt(11)=-1"
                + " variable(0,0)=0 variable(1,1)=0 channel(1)=-1 channel(8)=-1 notes(0)=-1 notes(1)=-1 panicking(0)=0");
    }
}
