import java.util.ArrayDeque;
import java.util.ArrayList;
import java.util.HashSet;
import java.util.List;
import java.util.Set;

/**
 * A second ChannelProgramRunner, written from the document in another way, with the Java library: channels are
 * objects with lists of who waits on them, ways through a function are walked one by one. ModelTest compares the two.
 */
final class Model {
    private static final int FUNC = 0, END = 1, IF = 2, ELSE = 3, LOOP = 4, BREAK = 5, SELECT = 6, CASESEND = 7,
            CASERECV = 8, DEFAULT = 9, SEND = 10, RECV = 11, CLOSE = 12, MAKE = 13, GO = 14, CALL = 15, DEFER = 16,
            RETURN = 17, PANIC = 18, RECOVER = 19, PRINT = 20, SET = 21, ADD = 22, SUB = 23, MUL = 24, DIV = 25,
            LESS = 26, SAME = 27, SLEEP = 28, AFTER = 29;

    private record Line(int kind, int a, int b, int c) {
    }

    private record Note(int function, int x, int y) {
    }

    private static final class Frame {
        int at;
        final int[] vars = new int[6];
        final ArrayDeque<Note> notes = new ArrayDeque<>();
        boolean leaving;
        Integer panic;
        boolean isNote;
    }

    private static final class Goroutine {
        final ArrayDeque<Frame> frames = new ArrayDeque<>();
        boolean waiting;
        boolean doomed;
        boolean stands;
        int waitNumber;
        Long until;
        int resumeAfter;
        final int number;

        Goroutine(int number) {
            this.number = number;
        }
    }

    private record Waiter(Goroutine g, int waitNumber, int line) {
        boolean stale() {
            return !g.waiting || g.waitNumber != waitNumber;
        }
    }

    private static final class Channel {
        int capacity;
        boolean closed;
        final ArrayDeque<Integer> values = new ArrayDeque<>();
        final ArrayDeque<Waiter> receivers = new ArrayDeque<>();
        final ArrayDeque<Waiter> senders = new ArrayDeque<>();

        static Waiter first(ArrayDeque<Waiter> waiters) {
            while (!waiters.isEmpty() && waiters.peek().stale()) {
                waiters.poll();
            }
            return waiters.peek();
        }
    }

    private final List<Line> lines = new ArrayList<>();
    private int bad = -1;
    private int state;
    private final List<Integer> functions = new ArrayList<>();
    private final List<Goroutine> goroutines = new ArrayList<>();
    private final List<Channel> channels = new ArrayList<>();
    private final List<Integer> outputs = new ArrayList<>();
    private final ArrayDeque<Goroutine> queue = new ArrayDeque<>();
    private Goroutine current;
    private int waits;
    private int panicValue;
    private long clock;
    private int[] ends;

    boolean line(int kind, int a, int b, int c) {
        boolean varA = Set.of(CASERECV, RECV, MAKE, RECOVER, SET, ADD, SUB, MUL, DIV, LESS, SAME).contains(kind);
        boolean varC = kind == CASERECV || kind == RECV;
        boolean starts = kind == GO || kind == CALL || kind == DEFER;
        if (lines.size() == 60 || kind < 0 || kind > 29 || varA && (a < 0 || a > 5) || varC && (c < 0 || c > 5)
                || kind == FUNC && (a < 0 || a > 2) || kind == MAKE && (b < 0 || b > 3) || starts && (a < 0 || a > 29)) {
            return false;
        }
        lines.add(new Line(kind, a, b, c));
        reset();
        return true;
    }

    int clear() {
        int n = lines.size();
        lines.clear();
        reset();
        return n;
    }

    private void reset() {
        state = 0;
        goroutines.clear();
        channels.clear();
        outputs.clear();
        queue.clear();
        current = null;
        panicValue = 0;
        clock = 0;
    }

    int check() {
        reset();
        bad = form();
        if (bad >= 0) {
            return 1;
        }
        for (int i = 0; i < lines.size() && bad < 0; i++) {
            Line l = lines.get(i);
            if (l.kind >= GO && l.kind <= DEFER && l.a >= functions.size()) {
                bad = i;
            }
        }
        if (bad >= 0) {
            return 2;
        }
        bad = unset();
        if (bad >= 0) {
            return 3;
        }
        current = start(0, 0, 0);
        current.stands = false;
        queue.clear();
        state = 1;
        return 0;
    }

    // ---- FORM: a word for each open block tells what may come next ----

    private int form() {
        functions.clear();
        ends = new int[60];
        ArrayDeque<Integer> open = new ArrayDeque<>();
        ArrayDeque<String> words = new ArrayDeque<>();
        for (int i = 0; i < lines.size(); i++) {
            int kind = lines.get(i).kind;
            String word = words.isEmpty() ? "" : words.peek();
            if (words.isEmpty() != (kind == FUNC)) {
                return i;
            }
            boolean section = kind == CASESEND || kind == CASERECV || kind == DEFAULT || kind == AFTER;
            if (section) {
                String next = word + (kind == DEFAULT || kind == AFTER ? "d" : "c");
                if (!word.startsWith("s") || next.chars().filter(x -> x == 'c').count() > 3
                        || next.chars().filter(x -> x == 'd').count() > 1) {
                    return i;
                }
                words.pop();
                words.push(next);
            } else if (kind != END && word.equals("s")) {
                return i;
            } else if (kind == ELSE) {
                if (!word.equals("i")) {
                    return i;
                }
                words.pop();
                words.push("e");
            } else if (kind == BREAK && !words.contains("l")) {
                return i;
            } else if (kind == END) {
                words.pop();
                ends[open.pop()] = i;
            } else if (kind == FUNC || kind == IF || kind == LOOP || kind == SELECT) {
                words.push(kind == FUNC ? "f" : kind == IF ? "i" : kind == LOOP ? "l" : "s");
                open.push(i);
                if (kind == FUNC) {
                    functions.add(i);
                }
            }
        }
        return words.isEmpty() && !lines.isEmpty() ? -1 : lines.size();
    }

    // ---- the way on through the lines ----

    private List<Integer> sections(int select) {
        List<Integer> found = new ArrayList<>();
        for (int i = select + 1; i < ends[select]; i++) {
            int kind = lines.get(i).kind;
            if (kind == IF || kind == LOOP || kind == SELECT) {
                i = ends[i];
            } else if (kind == CASESEND || kind == CASERECV || kind == DEFAULT || kind == AFTER) {
                found.add(i);
            }
        }
        return found;
    }

    private int elseOf(int at) {
        for (int i = at + 1; i < ends[at]; i++) {
            int kind = lines.get(i).kind;
            if (kind == IF || kind == LOOP || kind == SELECT) {
                i = ends[i];
            } else if (kind == ELSE) {
                return i;
            }
        }
        return -1;
    }

    private int opener(int end) {
        for (int i = end - 1; i >= 0; i--) {
            if (ends[i] == end && lines.get(i).kind != END) {
                return i;
            }
        }
        throw new IllegalStateException();
    }

    private int around(int at, int wanted) {
        for (int i = at - 1; i >= 0; i--) {
            int kind = lines.get(i).kind;
            if (kind == wanted && ends[i] > at) {
                return i;
            }
        }
        throw new IllegalStateException();
    }

    /** The line that is stood at after the line before `at`, or -1 when the function is left. */
    private int arrive(int at) {
        int kind = lines.get(at).kind;
        if (kind == ELSE) {
            return arrive(ends[around(at, IF)] + 1);
        }
        if (kind == CASESEND || kind == CASERECV || kind == DEFAULT || kind == AFTER) {
            return arrive(ends[around(at, SELECT)] + 1);
        }
        if (kind != END) {
            return at;
        }
        int opener = opener(at);
        int block = lines.get(opener).kind;
        return block == FUNC ? -1 : block == LOOP ? opener : arrive(at + 1);
    }

    // ---- UNSET: all ways, a line and what is set there at a time ----

    private record Place(int line, int set) {
    }

    private static int bit(int operand) {
        return operand >= 0 && operand <= 5 ? 1 << operand : 0;
    }

    private int unset() {
        int worst = Integer.MAX_VALUE;
        Set<Place> seen = new HashSet<>();
        ArrayDeque<Place> todo = new ArrayDeque<>();
        for (int f : functions) {
            todo.add(new Place(f, (1 << lines.get(f).a) - 1));
        }
        while (!todo.isEmpty()) {
            Place p = todo.poll();
            if (p.line < 0 || !seen.add(p)) {
                continue;
            }
            if ((reads(p.line) & ~p.set) != 0) {
                worst = Math.min(worst, p.line);
            }
            ways(p, todo);
        }
        return worst == Integer.MAX_VALUE ? -1 : worst;
    }

    private int reads(int i) {
        Line l = lines.get(i);
        switch (l.kind) {
            case IF: case LOOP: case CLOSE: case PANIC: case PRINT: case SLEEP:
                return bit(l.a);
            case SEND:
                return bit(l.a) | bit(l.b);
            case RECV: case SET:
                return bit(l.b);
            case ADD: case SUB: case MUL: case DIV: case LESS: case SAME:
                return bit(l.b) | bit(l.c);
            case GO: case CALL: case DEFER:
                int n = lines.get(functions.get(l.a)).a;
                return n == 0 ? 0 : n == 1 ? bit(l.b) : bit(l.b) | bit(l.c);
            case SELECT:
                int all = 0;
                for (int s : sections(i)) {
                    Line x = lines.get(s);
                    all |= x.kind == CASESEND ? bit(x.a) | bit(x.b) : x.kind == CASERECV ? bit(x.b) : x.kind == AFTER ? bit(x.a) : 0;
                }
                return all;
            default:
                return 0;
        }
    }

    private void ways(Place p, ArrayDeque<Place> todo) {
        Line l = lines.get(p.line);
        int set = p.set;
        switch (l.kind) {
            case RETURN: case PANIC:
                return;
            case IF:
                int other = elseOf(p.line);
                todo.add(new Place(arrive(other < 0 ? ends[p.line] : other + 1), set));
                break;
            case LOOP:
                todo.add(new Place(arrive(ends[p.line] + 1), set));
                break;
            case BREAK:
                todo.add(new Place(arrive(ends[around(p.line, LOOP)] + 1), set));
                return;
            case SELECT:
                for (int s : sections(p.line)) {
                    Line x = lines.get(s);
                    int more = x.kind == CASERECV ? bit(x.a) | bit(x.c) : 0;
                    todo.add(new Place(arrive(s + 1), set | more));
                }
                return;
            case RECV:
                set |= bit(l.a) | bit(l.c);
                break;
            case MAKE: case RECOVER: case SET: case ADD: case SUB: case MUL: case DIV: case LESS: case SAME:
                set |= bit(l.a);
                break;
            default:
                break;
        }
        todo.add(new Place(arrive(p.line + 1), set));
    }

    // ---- running ----

    int run(int steps) {
        if (state == 1 && steps >= 1 && steps <= 200) {
            for (int i = 0; i < steps && state == 1; i++) {
                Goroutine g = current;
                step(g, g.frames.peek());
                while (state == 1 && (current == null || !settled(current))) {
                    if (state == 1) {
                        next();
                    }
                }
            }
        }
        return state;
    }

    /** Lets the goroutine leave as far as it must; true if it then stands at a line. */
    private boolean settled(Goroutine g) {
        while (true) {
            Frame f = g.frames.peek();
            if (!f.leaving) {
                return true;
            }
            if (!f.notes.isEmpty()) {
                if (g.frames.size() == 4) {
                    state = 5;
                    return true;
                }
                Note n = f.notes.pop();
                push(g, n.function, n.x, n.y).isNote = true;
                return true;
            }
            g.frames.pop();
            Frame below = g.frames.peek();
            if (below == null) {
                current = null;
                if (f.panic != null) {
                    state = 3;
                    panicValue = f.panic;
                } else if (g.number == 0) {
                    state = 2;
                }
                return false;
            }
            if (f.panic != null) {
                below.leaving = true;
                below.panic = f.panic;
            } else if (!below.leaving) {
                goOn(below, below.at + 1);
            }
        }
    }

    private void goOn(Frame f, int target) {
        int at = arrive(target);
        if (at < 0) {
            f.leaving = true;
        } else {
            f.at = at;
        }
    }

    private void fail(Frame f, int value) {
        f.leaving = true;
        f.panic = value;
    }

    private void next() {
        if (queue.isEmpty()) {
            Long earliest = null;
            for (Goroutine g : goroutines) {
                if (g.waiting && g.until != null && (earliest == null || g.until < earliest)) {
                    earliest = g.until;
                }
            }
            if (earliest == null) {
                state = 4;
                return;
            }
            clock = earliest;
            List<Goroutine> due = new ArrayList<>();
            for (Goroutine g : goroutines) {
                if (g.waiting && earliest.equals(g.until)) {
                    due.add(g);
                }
            }
            due.sort((x, y) -> Integer.compare(x.waitNumber, y.waitNumber));
            for (Goroutine g : due) {
                int at = g.frames.peek().at;
                for (int s : lines.get(at).kind == SELECT ? sections(at) : List.<Integer>of()) {
                    if (lines.get(s).kind == AFTER) {
                        at = s;
                    }
                }
                wake(g, at);
            }
        }
        current = queue.poll();
        Frame f = current.frames.peek();
        if (current.doomed) {
            current.doomed = false;
            fail(f, -1);
        } else if (!current.stands) {
            goOn(f, current.resumeAfter + 1);
        }
        current.stands = false;
    }

    private void wake(Goroutine g, int after) {
        g.waiting = false;
        g.until = null;
        g.resumeAfter = after;
        queue.add(g);
    }

    private Goroutine start(int function, int x, int y) {
        Goroutine g = new Goroutine(goroutines.size());
        goroutines.add(g);
        push(g, function, x, y);
        g.stands = true;
        queue.add(g);
        return g;
    }

    private Frame push(Goroutine g, int function, int x, int y) {
        Frame f = new Frame();
        f.at = functions.get(function);
        int n = lines.get(f.at).a;
        if (n >= 1) {
            f.vars[0] = x;
        }
        if (n == 2) {
            f.vars[1] = y;
        }
        g.frames.push(f);
        return f;
    }

    private static int value(Frame f, int operand) {
        return operand < 0 ? operand : operand < 6 ? f.vars[operand] : operand - 6;
    }

    private Channel at(int number) {
        return number >= 1 && number <= channels.size() ? channels.get(number - 1) : null;
    }

    private void step(Goroutine g, Frame f) {
        int at = f.at;
        Line l = lines.get(at);
        int a = value(f, l.a), b = value(f, l.b), c = value(f, l.c);
        int target = at + 1;
        switch (l.kind) {
            case IF:
                int other = elseOf(at);
                target = a != 0 ? at + 1 : other < 0 ? ends[at] + 1 : other + 1;
                break;
            case LOOP:
                target = a != 0 ? at + 1 : ends[at] + 1;
                break;
            case BREAK:
                target = ends[around(at, LOOP)] + 1;
                break;
            case SEND: case RECV: case SELECT:
                talk(g, f, at, l.kind == SELECT ? sections(at) : List.of(at));
                return;
            case CLOSE:
                if (!close(a)) {
                    fail(f, -1);
                    return;
                }
                break;
            case MAKE:
                if (channels.size() == 8) {
                    fail(f, -4);
                    return;
                }
                Channel made = new Channel();
                made.capacity = l.b;
                channels.add(made);
                f.vars[l.a] = channels.size();
                break;
            case GO:
                if (goroutines.size() == 12) {
                    fail(f, -2);
                    return;
                }
                start(l.a, b, c);
                break;
            case CALL:
                if (g.frames.size() == 4) {
                    state = 5;
                    return;
                }
                push(g, l.a, b, c);
                return;
            case DEFER:
                if (f.notes.size() == 3) {
                    fail(f, -5);
                    return;
                }
                f.notes.push(new Note(l.a, b, c));
                break;
            case RETURN:
                f.leaving = true;
                return;
            case PANIC:
                fail(f, a);
                return;
            case RECOVER:
                f.vars[l.a] = 0;
                if (f.isNote) {
                    Frame below = g.frames.stream().skip(1).findFirst().get();
                    if (below.panic != null) {
                        f.vars[l.a] = below.panic;
                        below.panic = null;
                    }
                }
                break;
            case PRINT:
                outputs.add(a);
                break;
            case SLEEP:
                current = null;
                if (a <= 0) {
                    g.resumeAfter = at;
                    queue.add(g);
                } else {
                    await(g, clock + a);
                }
                return;
            case DIV:
                if (c == 0) {
                    fail(f, -3);
                    return;
                }
                f.vars[l.a] = b / c;
                break;
            case SET:
                f.vars[l.a] = b;
                break;
            case ADD:
                f.vars[l.a] = b + c;
                break;
            case SUB:
                f.vars[l.a] = b - c;
                break;
            case MUL:
                f.vars[l.a] = b * c;
                break;
            case LESS:
                f.vars[l.a] = b < c ? 1 : 0;
                break;
            case SAME:
                f.vars[l.a] = b == c ? 1 : 0;
                break;
            default:
                break;
        }
        goOn(f, target);
    }

    private void await(Goroutine g, Long until) {
        g.waiting = true;
        g.until = until;
        g.waitNumber = ++waits;
        current = null;
    }

    private void talk(Goroutine g, Frame f, int at, List<Integer> offers) {
        int other = -1;
        for (int i : offers) {
            Line l = lines.get(i);
            boolean sends = l.kind == SEND || l.kind == CASESEND;
            boolean receives = l.kind == RECV || l.kind == CASERECV;
            if (!sends && !receives) {
                other = i;
                continue;
            }
            Channel ch = at(value(f, sends ? l.a : l.b));
            if (ch == null) {
                continue;
            }
            Waiter receiver = Channel.first(ch.receivers);
            Waiter sender = Channel.first(ch.senders);
            if (sends && ch.closed) {
                fail(f, -1);
                return;
            }
            if (sends && receiver != null) {
                hand(receiver, value(f, l.b), 1);
            } else if (sends && ch.values.size() < ch.capacity) {
                ch.values.add(value(f, l.b));
            } else if (receives && !ch.values.isEmpty()) {
                f.vars[l.a] = ch.values.poll();
                f.vars[l.c] = 1;
                if (sender != null) {
                    ch.values.add(value(sender.g.frames.peek(), lines.get(sender.line).b));
                    wake(sender.g, sender.line);
                }
            } else if (receives && sender != null) {
                f.vars[l.a] = value(sender.g.frames.peek(), lines.get(sender.line).b);
                f.vars[l.c] = 1;
                wake(sender.g, sender.line);
            } else if (receives && ch.closed) {
                f.vars[l.a] = 0;
                f.vars[l.c] = 0;
            } else {
                continue;
            }
            goOn(f, i + 1);
            return;
        }
        Long until = null;
        if (other >= 0) {
            int wait = lines.get(other).kind == AFTER ? value(f, lines.get(other).a) : 0;
            if (wait <= 0) {
                goOn(f, other + 1);
                return;
            }
            until = clock + wait;
        }
        await(g, until);
        for (int i : offers) {
            Line l = lines.get(i);
            boolean sends = l.kind == SEND || l.kind == CASESEND;
            Channel ch = i == other ? null : at(value(f, sends ? l.a : l.b));
            if (ch != null) {
                (sends ? ch.senders : ch.receivers).add(new Waiter(g, g.waitNumber, i));
            }
        }
    }

    private void hand(Waiter receiver, int value, int flag) {
        Frame f = receiver.g.frames.peek();
        f.vars[lines.get(receiver.line).a] = value;
        f.vars[lines.get(receiver.line).c] = flag;
        wake(receiver.g, receiver.line);
    }

    private boolean close(int number) {
        Channel ch = at(number);
        if (ch == null || ch.closed) {
            return false;
        }
        ch.closed = true;
        for (Waiter w = Channel.first(ch.receivers); w != null; w = Channel.first(ch.receivers)) {
            hand(w, 0, 0);
        }
        for (Waiter w = Channel.first(ch.senders); w != null; w = Channel.first(ch.senders)) {
            w.g.doomed = true;
            wake(w.g, w.line);
        }
        return true;
    }

    // ---- looking ----

    int badLine() {
        return bad;
    }

    int printed() {
        return outputs.size();
    }

    int output(int k) {
        return k >= 0 && k < 32 && k < outputs.size() ? outputs.get(outputs.size() - 1 - k) : 0;
    }

    int panicValue() {
        return panicValue;
    }

    long clock() {
        return clock;
    }

    private Goroutine goroutine(int g) {
        return g >= 0 && g < goroutines.size() ? goroutines.get(g) : null;
    }

    private Frame top(int g) {
        return goroutine(g) == null ? null : goroutine(g).frames.peek();
    }

    int waitsAt(int g) {
        if (goroutine(g) == null) {
            return -1;
        }
        return top(g) == null ? -2 : goroutine(g).waiting ? top(g).at : -3;
    }

    int variable(int g, int v) {
        return top(g) == null || v < 0 || v > 5 ? 0 : top(g).vars[v];
    }

    int channel(int ch) {
        return at(ch) == null ? -1 : at(ch).values.size() + (at(ch).closed ? 8 : 0);
    }

    int notes(int g) {
        return top(g) == null ? -1 : top(g).notes.size();
    }

    int panicking(int g) {
        return goroutine(g) == null ? 0 : (int) goroutine(g).frames.stream().filter(f -> f.panic != null).count();
    }
}
