public final class ChannelProgramRunner {
    public static final int OK = 0, FORM = 1, CALLEE = 2, UNSET = 3;
    public static final int IDLE = 0, RUNNING = 1, EXITED = 2, PANICKED = 3, STUCK = 4, OVERFLOW = 5;

    private static final int FUNC = 0, END = 1, IF = 2, ELSE = 3, LOOP = 4, BREAK = 5, SELECT = 6;
    private static final int CASESEND = 7, CASERECV = 8, DEFAULT = 9, SEND = 10, RECV = 11, CLOSE = 12;
    private static final int MAKE = 13, GO = 14, CALL = 15, DEFER = 16, RETURN = 17, PANIC = 18;
    private static final int RECOVER = 19, PRINT = 20, SET = 21, ADD = 22, SUB = 23, MUL = 24, DIV = 25;
    private static final int LESS = 26, SAME = 27, SLEEP = 28, AFTER = 29;

    private static final int MAX_LINES = 60, MAX_FUNCTIONS = 30, MAX_STEPS = 200, MAX_CASES = 3;
    private static final int VARIABLES = 6, MAX_PARAMETERS = 2;
    private static final int MAX_GOROUTINES = 12, MAX_DEPTH = 4, MAX_NOTES = 3;
    private static final int MAX_CHANNELS = 8, MAX_CAPACITY = 3, CLOSED_MARK = 8;
    private static final int SLOTS = MAX_GOROUTINES * MAX_CASES;
    private static final int ACTIVATIONS = MAX_GOROUTINES * MAX_DEPTH;
    private static final int ALL_VARIABLES = ACTIVATIONS * VARIABLES;
    private static final int ALL_NOTES = ACTIVATIONS * MAX_NOTES;
    private static final int ALL_NOTE_VALUES = ALL_NOTES * MAX_PARAMETERS;
    private static final int ALL_HELD = MAX_CHANNELS * MAX_CAPACITY;
    private static final int KEPT_OUTPUT = 32;
    // One step moves over a few thousand marks at the very most.
    private static final int MOVES_BOUND = 1000000;

    private static final int NONE = -1;
    private static final long NEVER = -1L;
    // The bit above all variables tells that no way reaches the line.
    private static final int UNREACHED = 127;

    private static final int CHANNEL_PANIC = -1, GOROUTINE_PANIC = -2, DIVISION_PANIC = -3;
    private static final int MAKE_PANIC = -4, NOTE_PANIC = -5;

    // How an activation is: it executes lines, or it leaves and calls its notes.
    private static final int EXECUTES = 0, LEAVES = 1, PANICS = 2;
    // How a goroutine is; DOOMED is READY too, but begins with the panic of a CLOSE.
    private static final int READY = 0, DOOMED = 1, WAITING = 2, ENDED = 3;
    // How an attempt to send or to receive went.
    private static final int DONE = 0, WOULD_WAIT = 1, ON_CLOSED = 2;

    private final int[] kinds = new int[MAX_LINES];
    private final int[] argA = new int[MAX_LINES];
    private final int[] argB = new int[MAX_LINES];
    private final int[] argC = new int[MAX_LINES];
    private int lineCount;

    // The innermost block around a line; for END, ELSE and sections the block that they belong to.
    private final int[] blockOf = new int[MAX_LINES];
    private final int[] endOf = new int[MAX_LINES];
    private final int[] elseOf = new int[MAX_LINES];
    private final int[] functionLine = new int[MAX_FUNCTIONS];
    private int functionCount;
    private final int[] surelySet = new int[MAX_LINES];
    private int foundLine;

    private int state;
    private long time;
    private int endingPanic;
    private final int[] outputs = new int[KEPT_OUTPUT];
    private int outputCount;

    // Channel n is at index n - 1.
    private final int[] capacity = new int[MAX_CHANNELS];
    private final int[] fill = new int[MAX_CHANNELS];
    private final boolean[] closed = new boolean[MAX_CHANNELS];
    private final int[] held = new int[ALL_HELD];
    private int channelCount;

    private final int[] status = new int[MAX_GOROUTINES];
    private final int[] depth = new int[MAX_GOROUTINES];
    private final int[] waitOrder = new int[MAX_GOROUTINES];
    private final long[] waitUntil = new long[MAX_GOROUTINES];
    private int goroutineCount;
    private int waitsBegun;
    private int running;
    private final int[] queue = new int[MAX_GOROUTINES];
    private int queueLength;

    // A slot for each case of a waiting goroutine: the channel's number to receive, its negative to
    // send, 0 for nothing. It is told when the wait begins, since a value that is no channel then
    // stays without events even if a channel of that number is made later.
    private final int[] slotWish = new int[SLOTS];
    private final int[] slotLine = new int[SLOTS];

    // Activation d of goroutine g is at index g * MAX_DEPTH + d.
    private final int[] position = new int[ACTIVATIONS];
    private final int[] mode = new int[ACTIVATIONS];
    private final int[] panicOf = new int[ACTIVATIONS];
    private final int[] noteCount = new int[ACTIVATIONS];
    private final int[] noteFunction = new int[ALL_NOTES];
    private final int[] noteValues = new int[ALL_NOTE_VALUES];
    private final int[] variables = new int[ALL_VARIABLES];

    public ChannelProgramRunner() {
        lineCount = 0;
        foundLine = NONE;
        endProgram();
    }

    public boolean line(int kind, int a, int b, int c) {
        if (lineCount >= MAX_LINES || kind < FUNC || kind > AFTER) {
            return false;
        }
        if (!argumentsFit(kind, a, b, c)) {
            return false;
        }
        kinds[lineCount] = kind;
        argA[lineCount] = a;
        argB[lineCount] = b;
        argC[lineCount] = c;
        lineCount++;
        endProgram();
        return true;
    }

    public int clear() {
        int removed = lineCount;
        lineCount = 0;
        endProgram();
        return removed;
    }

    public int check() {
        endProgram();
        foundLine = formFault();
        if (foundLine != NONE) {
            return FORM;
        }
        foundLine = calleeFault();
        if (foundLine != NONE) {
            return CALLEE;
        }
        foundLine = unsetFault();
        if (foundLine != NONE) {
            return UNSET;
        }
        running = startGoroutine(0, 0, 0);
        state = RUNNING;
        return OK;
    }

    public int badLine() {
        return foundLine;
    }

    public int run(int steps) {
        if (steps < 1 || steps > MAX_STEPS) {
            return state;
        }
        for (int i = 0; i < steps && state == RUNNING; i++) {
            execute();
            settle();
        }
        return state;
    }

    public int printed() {
        return outputCount;
    }

    public int output(int k) {
        if (k < 0 || k >= KEPT_OUTPUT || k >= outputCount) {
            return 0;
        }
        return outputs[(outputCount - 1 - k) & (KEPT_OUTPUT - 1)];
    }

    public int panicValue() {
        return endingPanic;
    }

    public long clock() {
        return time;
    }

    public int waitsAt(int g) {
        if (g < 0 || g >= goroutineCount) {
            return -1;
        }
        if (status[g] == ENDED) {
            return -2;
        }
        if (status[g] == WAITING) {
            return position[topOf(g)];
        }
        return -3;
    }

    public int variable(int g, int v) {
        if (!hasActivation(g) || v < 0 || v >= VARIABLES) {
            return 0;
        }
        return variables[topOf(g) * VARIABLES + v];
    }

    public int channel(int ch) {
        if (!isChannel(ch)) {
            return -1;
        }
        return closed[ch - 1] ? fill[ch - 1] + CLOSED_MARK : fill[ch - 1];
    }

    public int notes(int g) {
        if (!hasActivation(g)) {
            return -1;
        }
        return noteCount[topOf(g)];
    }

    public int panicking(int g) {
        if (!hasActivation(g)) {
            return 0;
        }
        int count = 0;
        for (int d = 0; d < depth[g]; d++) {
            if (mode[g * MAX_DEPTH + d] == PANICS) {
                count++;
            }
        }
        return count;
    }

    // ---- feeding lines ----

    private void endProgram() {
        state = IDLE;
        goroutineCount = 0;
        channelCount = 0;
        queueLength = 0;
        waitsBegun = 0;
        running = NONE;
        outputCount = 0;
        endingPanic = 0;
        time = 0;
    }

    private boolean argumentsFit(int kind, int a, int b, int c) {
        switch (kind) {
            case FUNC:
                return a >= 0 && a <= MAX_PARAMETERS;
            case CASERECV:
            case RECV:
                return isVariable(a) && isVariable(c);
            case MAKE:
                return isVariable(a) && b >= 0 && b <= MAX_CAPACITY;
            case GO:
            case CALL:
            case DEFER:
                return a >= 0 && a < MAX_FUNCTIONS;
            case RECOVER:
                return isVariable(a);
            default:
                return !computes(kind) || isVariable(a);
        }
    }

    private boolean isVariable(int value) {
        return value >= 0 && value < VARIABLES;
    }

    private boolean computes(int kind) {
        return kind >= SET && kind <= SAME;
    }

    private boolean isSection(int kind) {
        return isCase(kind) || isAlternative(kind);
    }

    private boolean isCase(int kind) {
        return kind == CASESEND || kind == CASERECV;
    }

    private boolean isAlternative(int kind) {
        return kind == DEFAULT || kind == AFTER;
    }

    private boolean isStart(int kind) {
        return kind == GO || kind == CALL || kind == DEFER;
    }

    // ---- checking: FORM ----

    private int formFault() {
        int open = NONE;
        functionCount = 0;
        for (int i = 0; i < lineCount; i++) {
            if (!fitsInto(open, i)) {
                return i;
            }
            int kind = kinds[i];
            blockOf[i] = open;
            elseOf[i] = NONE;
            if (kind == FUNC) {
                functionLine[functionCount] = i;
                functionCount++;
            }
            if (kind == ELSE) {
                elseOf[open] = i;
            }
            if (kind == END) {
                endOf[open] = i;
                open = blockOf[open];
            }
            if (kind == FUNC || kind == IF || kind == LOOP || kind == SELECT) {
                open = i;
            }
        }
        return open == NONE && lineCount > 0 ? NONE : lineCount;
    }

    private boolean fitsInto(int open, int i) {
        int kind = kinds[i];
        if (open == NONE) {
            return kind == FUNC;
        }
        if (kind == FUNC) {
            return false;
        }
        if (kind == END) {
            return true;
        }
        if (isSection(kind)) {
            return kinds[open] == SELECT && sectionFits(open, i);
        }
        if (kinds[open] == SELECT && open == i - 1) {
            return false;
        }
        if (kind == ELSE) {
            return kinds[open] == IF && elseOf[open] == NONE;
        }
        return kind != BREAK || loopAround(open) != NONE;
    }

    private boolean sectionFits(int select, int i) {
        int cases = 0;
        int alternatives = 0;
        for (int j = select + 1; j < i; j++) {
            if (blockOf[j] == select && isCase(kinds[j])) {
                cases++;
            }
            if (blockOf[j] == select && isAlternative(kinds[j])) {
                alternatives++;
            }
        }
        return isCase(kinds[i]) ? cases < MAX_CASES : alternatives < 1;
    }

    // The nearest LOOP from this block outwards.
    private int loopAround(int block) {
        int around = block;
        for (int i = 0; i < MAX_LINES && around != NONE; i++) {
            if (kinds[around] == LOOP) {
                return around;
            }
            around = blockOf[around];
        }
        return NONE;
    }

    // ---- checking: CALLEE ----

    private int calleeFault() {
        for (int i = 0; i < lineCount; i++) {
            if (isStart(kinds[i]) && argA[i] >= functionCount) {
                return i;
            }
        }
        return NONE;
    }

    // ---- checking: UNSET ----

    // No line unsets a variable, so the way back from a LOOP's END tells nothing new, and all
    // other ways lead to later lines: one pass in the order of the lines finds everything.
    private int unsetFault() {
        for (int i = 0; i < lineCount; i++) {
            surelySet[i] = UNREACHED;
        }
        for (int i = 0; i < lineCount; i++) {
            if (kinds[i] == FUNC) {
                surelySet[i] = (1 << argA[i]) - 1;
            }
            if (surelySet[i] != UNREACHED) {
                int read = variablesRead(i);
                if ((read & ~surelySet[i]) != 0) {
                    return i;
                }
                int after = surelySet[i] | variablesSet(i);
                passOn(i, after);
            }
        }
        return NONE;
    }

    private int variablesRead(int i) {
        int a = variableBit(argA[i]);
        int b = variableBit(argB[i]);
        int c = variableBit(argC[i]);
        switch (kinds[i]) {
            case IF:
            case LOOP:
            case CLOSE:
            case PANIC:
            case PRINT:
            case SLEEP:
                return a;
            case SEND:
                return a | b;
            case RECV:
            case SET:
                return b;
            case GO:
            case CALL:
            case DEFER:
                int parameters = argA[functionLine[argA[i]]];
                return (parameters > 0 ? b : 0) | (parameters > 1 ? c : 0);
            case SELECT:
                return readBySections(i);
            default:
                return computes(kinds[i]) ? b | c : 0;
        }
    }

    private int readBySections(int select) {
        int read = 0;
        for (int i = select + 1; i < endOf[select]; i++) {
            int a = variableBit(argA[i]);
            int b = variableBit(argB[i]);
            if (blockOf[i] == select && kinds[i] == CASESEND) {
                read = read | a | b;
            }
            if (blockOf[i] == select && kinds[i] == CASERECV) {
                read = read | b;
            }
            if (blockOf[i] == select && kinds[i] == AFTER) {
                read = read | a;
            }
        }
        return read;
    }

    private int variableBit(int operand) {
        return isVariable(operand) ? 1 << operand : 0;
    }

    private int variablesSet(int i) {
        int kind = kinds[i];
        if (kind == RECV || kind == CASERECV) {
            return (1 << argA[i]) | (1 << argC[i]);
        }
        if (kind == MAKE || kind == RECOVER || computes(kind)) {
            return 1 << argA[i];
        }
        return 0;
    }

    private void passOn(int i, int set) {
        switch (kinds[i]) {
            case RETURN:
            case PANIC:
                break;
            case END:
                if (kinds[blockOf[i]] == IF || kinds[blockOf[i]] == SELECT) {
                    reach(i + 1, set);
                }
                break;
            case IF:
                reach(i + 1, set);
                int otherPart = elseOf[i] == NONE ? endOf[i] : elseOf[i];
                surelySet[otherPart] &= set;
                break;
            case LOOP:
                reach(i + 1, set);
                reach(endOf[i] + 1, set);
                break;
            case BREAK:
                int loop = loopAround(blockOf[i]);
                reach(endOf[loop] + 1, set);
                break;
            case SELECT:
                reachSections(i, set);
                break;
            default:
                reach(i + 1, set);
                break;
        }
    }

    // Coming to ELSE or a section from above is the end of the part before it.
    private void reach(int target, int set) {
        int reached = target;
        if (kinds[target] == ELSE || isSection(kinds[target])) {
            reached = endOf[blockOf[target]];
        }
        surelySet[reached] &= set;
    }

    private void reachSections(int select, int set) {
        for (int i = select + 1; i < endOf[select]; i++) {
            if (blockOf[i] == select && isSection(kinds[i])) {
                surelySet[i] &= set;
            }
        }
    }

    // ---- goroutines and activations ----

    private boolean hasActivation(int g) {
        return g >= 0 && g < goroutineCount && depth[g] > 0;
    }

    private int topOf(int g) {
        return g * MAX_DEPTH + depth[g] - 1;
    }

    private int startGoroutine(int function, int x, int y) {
        int g = goroutineCount;
        goroutineCount++;
        status[g] = READY;
        depth[g] = 0;
        forgetWait(g);
        enter(g, function, x, y);
        return g;
    }

    private void enter(int g, int function, int x, int y) {
        int t = g * MAX_DEPTH + depth[g];
        depth[g]++;
        position[t] = functionLine[function];
        mode[t] = EXECUTES;
        noteCount[t] = 0;
        for (int v = 0; v < VARIABLES; v++) {
            variables[t * VARIABLES + v] = 0;
        }
        int parameters = argA[functionLine[function]];
        if (parameters > 0) {
            variables[t * VARIABLES] = x;
        }
        if (parameters > 1) {
            variables[t * VARIABLES + 1] = y;
        }
    }

    private void enqueue(int g) {
        queue[queueLength] = g;
        queueLength++;
    }

    private int dequeue() {
        int first = queue[0];
        queueLength--;
        for (int i = 0; i < queueLength; i++) {
            queue[i] = queue[i + 1];
        }
        return first;
    }

    private void forgetWait(int g) {
        waitUntil[g] = NEVER;
        for (int k = 0; k < MAX_CASES; k++) {
            slotWish[g * MAX_CASES + k] = 0;
        }
    }

    private void beginWait(int t, int at, long until) {
        position[t] = at;
        status[running] = WAITING;
        waitUntil[running] = until;
        waitOrder[running] = waitsBegun;
        waitsBegun++;
        running = NONE;
    }

    // The goroutine goes on after line `from` when it becomes the running one.
    private void stopWaiting(int g, int from, int newStatus) {
        position[topOf(g)] = from + 1;
        status[g] = newStatus;
        forgetWait(g);
        enqueue(g);
    }

    // ---- executing one line ----

    private void execute() {
        int t = topOf(running);
        int at = position[t];
        int a = valueOf(t, argA[at]);
        int b = valueOf(t, argB[at]);
        int c = valueOf(t, argC[at]);
        position[t] = at + 1;
        switch (kinds[at]) {
            case FUNC:
                break;
            case IF:
                position[t] = a != 0 ? at + 1 : otherPartOf(at);
                break;
            case LOOP:
                position[t] = a != 0 ? at + 1 : endOf[at] + 1;
                break;
            case BREAK:
                position[t] = endOf[loopAround(blockOf[at])] + 1;
                break;
            case SELECT:
            case SEND:
            case RECV:
                communicate(t, at);
                break;
            case CLOSE:
                closeChannel(t, a);
                break;
            case MAKE:
                makeChannel(t, at);
                break;
            case GO:
                startAnother(t, argA[at], b, c);
                break;
            case CALL:
                call(argA[at], b, c);
                break;
            case DEFER:
                note(t, argA[at], b, c);
                break;
            case RETURN:
                mode[t] = LEAVES;
                break;
            case PANIC:
                panic(t, a);
                break;
            case RECOVER:
                recover(t, at);
                break;
            case PRINT:
                print(a);
                break;
            case SLEEP:
                sleep(t, at, a);
                break;
            default:
                compute(t, at, b, c);
                break;
        }
    }

    private int valueOf(int t, int operand) {
        if (operand < 0) {
            return operand;
        }
        return operand < VARIABLES ? variables[t * VARIABLES + operand] : operand - VARIABLES;
    }

    private int otherPartOf(int at) {
        return elseOf[at] == NONE ? endOf[at] : elseOf[at] + 1;
    }

    private void panic(int t, int value) {
        mode[t] = PANICS;
        panicOf[t] = value;
    }

    // One that panics calls nothing but its notes, so an activation right above it is a note's.
    private void recover(int t, int at) {
        int recovered = 0;
        if (depth[running] > 1 && mode[t - 1] == PANICS) {
            recovered = panicOf[t - 1];
            mode[t - 1] = LEAVES;
        }
        variables[t * VARIABLES + argA[at]] = recovered;
    }

    private void startAnother(int t, int function, int x, int y) {
        if (goroutineCount >= MAX_GOROUTINES) {
            panic(t, GOROUTINE_PANIC);
            return;
        }
        int g = startGoroutine(function, x, y);
        enqueue(g);
    }

    private void call(int function, int x, int y) {
        if (depth[running] >= MAX_DEPTH) {
            state = OVERFLOW;
            return;
        }
        enter(running, function, x, y);
    }

    private void note(int t, int function, int x, int y) {
        if (noteCount[t] >= MAX_NOTES) {
            panic(t, NOTE_PANIC);
            return;
        }
        int n = t * MAX_NOTES + noteCount[t];
        noteFunction[n] = function;
        noteValues[n * MAX_PARAMETERS] = x;
        noteValues[n * MAX_PARAMETERS + 1] = y;
        noteCount[t]++;
    }

    private void print(int value) {
        outputs[outputCount & (KEPT_OUTPUT - 1)] = value;
        outputCount++;
    }

    private void sleep(int t, int at, int duration) {
        if (duration > 0) {
            beginWait(t, at, time + duration);
            return;
        }
        enqueue(running);
        running = NONE;
    }

    private void compute(int t, int at, int b, int c) {
        int result = b;
        switch (kinds[at]) {
            case ADD:
                result = b + c;
                break;
            case SUB:
                result = b - c;
                break;
            case MUL:
                result = b * c;
                break;
            case DIV:
                if (c == 0) {
                    panic(t, DIVISION_PANIC);
                    return;
                }
                result = b / c;
                break;
            case LESS:
                result = b < c ? 1 : 0;
                break;
            case SAME:
                result = b == c ? 1 : 0;
                break;
            default:
                break;
        }
        variables[t * VARIABLES + argA[at]] = result;
    }

    // ---- channels ----

    private boolean isChannel(int ch) {
        return ch >= 1 && ch <= channelCount;
    }

    private void makeChannel(int t, int at) {
        if (channelCount >= MAX_CHANNELS) {
            panic(t, MAKE_PANIC);
            return;
        }
        capacity[channelCount] = argB[at];
        fill[channelCount] = 0;
        closed[channelCount] = false;
        channelCount++;
        variables[t * VARIABLES + argA[at]] = channelCount;
    }

    private void closeChannel(int t, int ch) {
        if (!isChannel(ch) || closed[ch - 1]) {
            panic(t, CHANNEL_PANIC);
            return;
        }
        closed[ch - 1] = true;
        for (int i = 0; i < MAX_GOROUTINES; i++) {
            int slot = longestWaiting(ch);
            if (slot != NONE) {
                int g = slot / MAX_CASES;
                setReceived(g, slotLine[slot], 0, 0);
                stopWaiting(g, slotLine[slot], READY);
            }
        }
        for (int i = 0; i < MAX_GOROUTINES; i++) {
            int slot = longestWaiting(-ch);
            if (slot != NONE) {
                stopWaiting(slot / MAX_CASES, slotLine[slot], DOOMED);
            }
        }
    }

    // The first fitting slot of the goroutine that has waited longest with that wish.
    private int longestWaiting(int wish) {
        int best = NONE;
        for (int slot = 0; slot < goroutineCount * MAX_CASES; slot++) {
            if (slotWish[slot] == wish) {
                if (best == NONE || waitOrder[slot / MAX_CASES] < waitOrder[best / MAX_CASES]) {
                    best = slot;
                }
            }
        }
        return best;
    }

    private void setReceived(int g, int at, int value, int flag) {
        int t = topOf(g);
        variables[t * VARIABLES + argA[at]] = value;
        variables[t * VARIABLES + argC[at]] = flag;
    }

    private void addValue(int ch, int value) {
        held[(ch - 1) * MAX_CAPACITY + fill[ch - 1]] = value;
        fill[ch - 1]++;
    }

    private int takeOldest(int ch) {
        int first = (ch - 1) * MAX_CAPACITY;
        int oldest = held[first];
        fill[ch - 1]--;
        for (int i = 0; i < fill[ch - 1]; i++) {
            held[first + i] = held[first + i + 1];
        }
        return oldest;
    }

    private boolean isSendOf(int at, int i) {
        return i == at ? kinds[i] == SEND : blockOf[i] == at && kinds[i] == CASESEND;
    }

    private boolean isReceiveOf(int at, int i) {
        return i == at ? kinds[i] == RECV : blockOf[i] == at && kinds[i] == CASERECV;
    }

    // A SEND or RECV is treated as a SELECT whose one case is the line itself.
    private void communicate(int t, int at) {
        int last = kinds[at] == SELECT ? endOf[at] : at;
        for (int i = at; i <= last; i++) {
            int result = WOULD_WAIT;
            if (isSendOf(at, i)) {
                result = trySend(t, i);
            } else if (isReceiveOf(at, i)) {
                result = tryReceive(t, i);
            }
            if (result == DONE) {
                position[t] = i + 1;
                return;
            }
            if (result == ON_CLOSED) {
                panic(t, CHANNEL_PANIC);
                return;
            }
        }
        enterAlternativeOrWait(t, at, last);
    }

    private int trySend(int t, int at) {
        int ch = valueOf(t, argA[at]);
        int value = valueOf(t, argB[at]);
        if (!isChannel(ch)) {
            return WOULD_WAIT;
        }
        if (closed[ch - 1]) {
            return ON_CLOSED;
        }
        int slot = longestWaiting(ch);
        if (slot != NONE) {
            int receiver = slot / MAX_CASES;
            setReceived(receiver, slotLine[slot], value, 1);
            stopWaiting(receiver, slotLine[slot], READY);
            return DONE;
        }
        if (fill[ch - 1] < capacity[ch - 1]) {
            addValue(ch, value);
            return DONE;
        }
        return WOULD_WAIT;
    }

    private int tryReceive(int t, int at) {
        int ch = valueOf(t, argB[at]);
        if (!isChannel(ch)) {
            return WOULD_WAIT;
        }
        int slot = longestWaiting(-ch);
        if (fill[ch - 1] > 0) {
            int oldest = takeOldest(ch);
            setReceived(running, at, oldest, 1);
            if (slot != NONE) {
                int added = senderValue(slot);
                addValue(ch, added);
                stopWaiting(slot / MAX_CASES, slotLine[slot], READY);
            }
            return DONE;
        }
        if (slot != NONE) {
            int handedOver = senderValue(slot);
            setReceived(running, at, handedOver, 1);
            stopWaiting(slot / MAX_CASES, slotLine[slot], READY);
            return DONE;
        }
        if (closed[ch - 1]) {
            setReceived(running, at, 0, 0);
            return DONE;
        }
        return WOULD_WAIT;
    }

    // Nothing changes a goroutine's variables while it waits, so the value is still the one of then.
    private int senderValue(int slot) {
        int t = topOf(slot / MAX_CASES);
        return valueOf(t, argB[slotLine[slot]]);
    }

    private void enterAlternativeOrWait(int t, int at, int last) {
        int other = kinds[at] == SELECT ? alternativeOf(at) : NONE;
        long until = NEVER;
        if (other != NONE) {
            int duration = kinds[other] == AFTER ? valueOf(t, argA[other]) : 0;
            if (duration <= 0) {
                position[t] = other + 1;
                return;
            }
            until = time + duration;
        }
        offerCases(t, at, last);
        beginWait(t, at, until);
    }

    // The line of a SELECT's DEFAULT or AFTER.
    private int alternativeOf(int select) {
        for (int i = select + 1; i < endOf[select]; i++) {
            if (blockOf[i] == select && isAlternative(kinds[i])) {
                return i;
            }
        }
        return NONE;
    }

    private void offerCases(int t, int at, int last) {
        int slot = running * MAX_CASES;
        for (int i = at; i <= last; i++) {
            boolean sends = isSendOf(at, i);
            if (sends || isReceiveOf(at, i)) {
                int ch = valueOf(t, sends ? argA[i] : argB[i]);
                int wish = sends ? -ch : ch;
                slotLine[slot] = i;
                slotWish[slot] = isChannel(ch) ? wish : 0;
                slot++;
            }
        }
    }

    // ---- between the lines ----

    // Ends the step: some goroutine stands at a line to be executed, or the program has ended.
    private void settle() {
        for (int i = 0; i < MOVES_BOUND && state == RUNNING; i++) {
            if (running == NONE) {
                runNext();
            } else {
                int t = topOf(running);
                if (mode[t] != EXECUTES) {
                    leave(t);
                } else if (!movedOn(t)) {
                    return;
                }
            }
        }
    }

    private boolean movedOn(int t) {
        int at = position[t];
        if (kinds[at] == ELSE || isSection(kinds[at])) {
            position[t] = endOf[blockOf[at]];
            return true;
        }
        if (kinds[at] != END) {
            return false;
        }
        int block = blockOf[at];
        if (kinds[block] == FUNC) {
            mode[t] = LEAVES;
        } else if (kinds[block] == LOOP) {
            position[t] = block;
        } else {
            position[t] = at + 1;
        }
        return true;
    }

    private void leave(int t) {
        int g = running;
        if (noteCount[t] > 0) {
            callLatestNote(t);
            return;
        }
        depth[g]--;
        if (depth[g] == 0) {
            endGoroutine(g, t);
        } else if (mode[t] == PANICS) {
            panic(t - 1, panicOf[t]);
        }
    }

    private void callLatestNote(int t) {
        if (depth[running] >= MAX_DEPTH) {
            state = OVERFLOW;
            return;
        }
        noteCount[t]--;
        int n = t * MAX_NOTES + noteCount[t];
        int v = n * MAX_PARAMETERS;
        enter(running, noteFunction[n], noteValues[v], noteValues[v + 1]);
    }

    private void endGoroutine(int g, int t) {
        status[g] = ENDED;
        running = NONE;
        if (mode[t] == PANICS) {
            endingPanic = panicOf[t];
            state = PANICKED;
        } else if (g == 0) {
            state = EXITED;
        }
    }

    private void runNext() {
        if (queueLength == 0) {
            passTime();
        }
        if (queueLength == 0) {
            state = STUCK;
            return;
        }
        running = dequeue();
        if (status[running] == DOOMED) {
            status[running] = READY;
            int t = topOf(running);
            panic(t, CHANNEL_PANIC);
        }
    }

    private void passTime() {
        long earliest = NEVER;
        for (int g = 0; g < goroutineCount; g++) {
            if (waitUntil[g] != NEVER && (earliest == NEVER || waitUntil[g] < earliest)) {
                earliest = waitUntil[g];
            }
        }
        if (earliest == NEVER) {
            return;
        }
        time = earliest;
        for (int i = 0; i < MAX_GOROUTINES; i++) {
            int g = longestWaitingUntil(earliest);
            if (g != NONE) {
                int from = position[topOf(g)];
                if (kinds[from] == SELECT) {
                    from = alternativeOf(from);
                }
                stopWaiting(g, from, READY);
            }
        }
    }

    private int longestWaitingUntil(long moment) {
        int best = NONE;
        for (int g = 0; g < goroutineCount; g++) {
            if (waitUntil[g] == moment && (best == NONE || waitOrder[g] < waitOrder[best])) {
                best = g;
            }
        }
        return best;
    }
}
