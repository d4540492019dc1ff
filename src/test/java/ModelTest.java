import java.util.ArrayList;
import java.util.List;

/**
 * All promises: the same calls, made up by a fixed sequence of numbers, on the class and on Model. Half of the programs are
 * well formed and likely to run; the others are lines in any order, with wrong arguments among them.
 */
public final class ModelTest {
    private static final int PROGRAMS = 100000;
    /** Calls that a round needs before it begins to run, and calls of one look. */
    private static final int ROUND = 120;
    private static final int LOOK = 17;
    private static long seed = 20261115L;
    private static final Answers answers = new Answers();
    private static Counted x;
    private static Model m;
    private static String told;
    private static final int[] ended = new int[6];
    private static final int[] checked = new int[4];

    public static void main(String[] args) {
        for (int i = 0; i < PROGRAMS; i++) {
            x = new Counted();
            m = new Model();
            told = "";
            int rounds = 1 + below(2);
            for (int r = 0; r < rounds && x.left() >= ROUND; r++) {
                if (i % 4 == 3) {
                    feedAnything();
                } else {
                    feedProgram(i % 4 == 2);
                }
                checkAndRun();
                if (below(2) == 0) {
                    due("clear()", m.clear(), x.clear());
                }
                look();
            }
        }
        for (int state = 0; state < ended.length; state++) {
            System.out.println("programs that were left in state " + state + ": " + ended[state]);
            answers.due("some programs end in state " + state, true, ended[state] > PROGRAMS / 500);
        }
        for (int answer = 0; answer < checked.length; answer++) {
            System.out.println("checks that answered " + answer + ": " + checked[answer]);
            answers.due("some checks answer " + answer, true, checked[answer] > PROGRAMS / 500);
        }
        answers.finish();
    }

    private static int below(int bound) {
        seed = seed * 6364136223846793005L + 1442695040888963407L;
        return (int) ((seed >>> 33) % bound);
    }

    private static int oneOf(int... values) {
        return values[below(values.length)];
    }

    private static void due(String call, long want, long got) {
        answers.due(want == got ? "" : "after " + told + call, want, got);
    }

    private static void line(int kind, int a, int b, int c) {
        boolean want = m.line(kind, a, b, c);
        due("line(" + kind + ", " + a + ", " + b + ", " + c + ")", want ? 1 : 0, x.line(kind, a, b, c) ? 1 : 0);
        told += "line(" + kind + ", " + a + ", " + b + ", " + c + ") ";
    }

    // ---- programs ----

    private static int anyArgument() {
        return below(8) == 0 ? oneOf(-1, 6, 30, 2147483647, -2147483648, 5, 29, 3, 4) : below(9);
    }

    private static void feedAnything() {
        if (below(8) != 0) {
            line(0, below(3), 0, 0);
        }
        int n = below(12);
        for (int i = 0; i < n; i++) {
            int kind = below(3) == 0 ? oneOf(1, 1, 1, 2, 3, 4, 5, 6, 7, 8, 9, 29) : below(32) - 1;
            line(kind, anyArgument(), anyArgument(), anyArgument());
        }
        for (int i = below(4); i > 0; i--) {
            line(1, 0, 0, 0);
        }
    }

    private static int functions;
    private static int budget;
    private static boolean careless;
    private static int sets;

    /** Channels sit in variables 0 to 2, so that most operands that name them meet a channel. */
    private static void feedProgram(boolean withUnset) {
        careless = withUnset;
        functions = 1 + below(4);
        for (int f = 0; f < functions; f++) {
            budget = 3 + below(f == 0 ? 22 : 12);
            int parameters = f == 0 ? 0 : below(5) == 0 ? below(3) : 2;
            line(0, parameters, 0, 0);
            sets = (1 << parameters) - 1;
            if (f == 0) {
                for (int v = 0; v < 3; v++) {
                    line(13, v, below(4) == 0 ? below(4) : below(2), 0);
                    sets |= 1 << v;
                }
            }
            block(0, false);
            line(1, 0, 0, 0);
        }
    }

    private static int variable() {
        return below(6);
    }

    private static int operand() {
        if (below(3) == 0) {
            return below(10) == 0 ? oneOf(-1, -7, 2147483647, -2147483648) : 6 + below(5);
        }
        return readable(below(6));
    }

    private static int readable(int v) {
        if (careless && below(6) == 0 || (sets & (1 << v)) != 0) {
            return v;
        }
        return (sets & 1) != 0 ? 0 : 7 + below(3);
    }

    private static int channelOperand() {
        return below(12) == 0 ? operand() : readable(below(3));
    }

    private static int written() {
        return below(8) == 0 ? variable() : 3 + below(3);
    }

    private static void block(int depth, boolean inLoop) {
        int n = below(depth == 0 ? 14 : 4) + (depth == 0 ? 1 : 0);
        for (int i = 0; i < n && budget > 0; i++) {
            budget--;
            int shape = below(20);
            if (shape < 2 && depth < 3) {
                branch(depth, inLoop);
            } else if (shape < 3 && depth < 3) {
                loop(depth);
            } else if (shape < 6 && depth < 3) {
                select(depth, inLoop);
            } else {
                plain(inLoop);
            }
        }
    }

    private static void branch(int depth, boolean inLoop) {
        line(2, operand(), 0, 0);
        int before = sets;
        block(depth + 1, inLoop);
        int first = sets;
        sets = before;
        if (below(2) == 0) {
            line(3, 0, 0, 0);
            block(depth + 1, inLoop);
        }
        sets &= first;
        line(1, 0, 0, 0);
    }

    private static void loop(int depth) {
        line(4, operand(), 0, 0);
        int before = sets;
        block(depth + 1, true);
        sets = before;
        line(1, 0, 0, 0);
    }

    private static void select(int depth, boolean inLoop) {
        line(6, 0, 0, 0);
        int before = sets;
        int after = 63;
        List<Integer> kinds = new ArrayList<>();
        for (int i = below(4); i > 0; i--) {
            kinds.add(oneOf(7, 8));
        }
        if (below(5) < 2) {
            kinds.add(below(kinds.size() + 1), oneOf(9, 29, 29));
        }
        for (int kind : kinds) {
            sets = before;
            if (kind == 7) {
                line(7, channelOperand(), operand(), 0);
            } else if (kind == 8) {
                int a = written(), c = written();
                line(8, a, channelOperand(), c);
                sets |= 1 << a | 1 << c;
            } else {
                line(kind, below(2) == 0 ? operand() : 6 + below(4), 0, 0);
            }
            block(depth + 1, inLoop);
            after &= sets;
        }
        sets = before | (kinds.isEmpty() ? 0 : after);
        line(1, 0, 0, 0);
    }

    private static void plain(boolean inLoop) {
        int a = written();
        int c = written();
        switch (below(inLoop ? 21 : 20)) {
            case 0: case 1: case 2:
                line(10, channelOperand(), operand(), 0);
                break;
            case 3: case 4: case 5:
                line(11, a, channelOperand(), c);
                sets |= 1 << a | 1 << c;
                break;
            case 6:
                line(12, channelOperand(), 0, 0);
                break;
            case 7: case 8: case 9:
                line(14, callee(), channelOperand(), channelOperand());
                break;
            case 10:
                line(15, callee(), channelOperand(), channelOperand());
                break;
            case 11: case 12:
                line(16, callee(), channelOperand(), channelOperand());
                break;
            case 13:
                line(below(3) == 0 ? 17 : 18, operand(), 0, 0);
                break;
            case 14:
                line(19, a, 0, 0);
                sets |= 1 << a;
                break;
            case 15:
                line(20, operand(), 0, 0);
                break;
            case 16: case 17:
                line(below(8) == 0 ? 13 : 21 + below(7), a, below(2), operand());
                sets |= 1 << a;
                break;
            case 18: case 19:
                line(28, below(2) == 0 ? operand() : 6 + below(4), 0, 0);
                break;
            default:
                line(5, 0, 0, 0);
                break;
        }
    }

    private static int callee() {
        return below(60) == 0 ? functions : functions == 1 ? 0 : below(8) == 0 ? below(functions) : 1 + below(functions - 1);
    }

    // ---- calls ----

    private static void checkAndRun() {
        int checks = 1 + below(8) / 7;
        for (int i = 0; i < checks && x.left() >= 3 * LOOK; i++) {
            int want = m.check();
            checked[want]++;
            due("check()", want, x.check());
            due("badLine()", m.badLine(), x.badLine());
            told += "check() ";
            look();
            runOn();
        }
    }

    private static void runOn() {
        boolean small = below(2) == 0;
        int state = 1;
        for (int i = 0; i < 40 && state == 1 && x.left() >= 3 * LOOK; i++) {
            int steps = small && i < 30 ? 1 + below(3) : oneOf(0, -1, 201, 200, 200, 7);
            state = m.run(steps);
            due("run(" + steps + ")", state, x.run(steps));
            told += "run(" + steps + ") ";
            look();
        }
        ended[state]++;
    }

    /** Asks for a few of all that can be asked, so that an object's calls last for long runs. */
    private static void look() {
        due("badLine()", m.badLine(), x.badLine());
        due("printed()", m.printed(), x.printed());
        due("panicValue()", m.panicValue(), x.panicValue());
        due("clock()", m.clock(), x.clock());
        int k = below(34) - 1;
        due("output(" + k + ")", m.output(k), x.output(k));
        int ch = below(10);
        due("channel(" + ch + ")", m.channel(ch), x.channel(ch));
        for (int i = 0; i < 2; i++) {
            int g = below(4) == 0 ? below(14) - 1 : below(4);
            due("waitsAt(" + g + ")", m.waitsAt(g), x.waitsAt(g));
            due("notes(" + g + ")", m.notes(g), x.notes(g));
            due("panicking(" + g + ")", m.panicking(g), x.panicking(g));
            int v = below(8) - 1;
            due("variable(" + g + ", " + v + ")", m.variable(g, v), x.variable(g, v));
        }
    }
}
