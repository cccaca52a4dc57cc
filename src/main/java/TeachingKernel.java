public final class TeachingKernel {
    public static final int BAD = -1000;
    public static final int FREE = 0;
    public static final int READY = 1;
    public static final int WAITING = 2;
    public static final int ENDED = 3;

    private static final int CODE_SIZE = 64;
    private static final int PROCESSES = 6;
    private static final int REGISTERS = 4;
    private static final int ALL_REGISTERS = PROCESSES * REGISTERS;
    private static final int WORDS = 32;
    private static final int ALL_WORDS = PROCESSES * WORDS;
    private static final int DESCRIPTORS = 4;
    private static final int ALL_DESCRIPTORS = PROCESSES * DESCRIPTORS;
    private static final int PIPES = 3;
    private static final int PIPE_WORDS = 4;
    private static final int ALL_PIPE_WORDS = PIPES * PIPE_WORDS;
    private static final int OUTPUT_KEPT = 32;
    private static final int TURN_INSTRUCTIONS = 3;
    private static final int MOST_TURNS = 80;
    private static final int LEVELS = 3;
    private static final int FIRST_LEVEL = 2;

    private static final int NONE = -1;
    private static final int NOTHING = 0;

    private static final int RESULT_BAD_WORD = -1;
    private static final int RESULT_NO_READER = -2;
    private static final int RESULT_KILLED = -3;
    private static final int RESULT_BAD_SPOT = -4;

    private static final int MOST_WHAT = 511;
    private static final int OP_MASK = 31;
    private static final int A_SHIFT = 5;
    private static final int B_SHIFT = 7;
    private static final int REGISTER_MASK = 3;

    private static final int END = 0;
    private static final int SET = 1;
    private static final int MOVE = 2;
    private static final int ADD = 3;
    private static final int SUBTRACT = 4;
    private static final int MULTIPLY = 5;
    private static final int ADD_NUMBER = 6;
    private static final int LESS = 7;
    private static final int LOAD = 8;
    private static final int STORE = 9;
    private static final int JUMP_IF_ZERO = 10;
    private static final int JUMP = 11;
    private static final int JUMP_IF_NOT_ZERO = 12;
    private static final int FORK = 13;
    private static final int WAIT = 14;
    private static final int PIPE = 15;
    private static final int READ = 16;
    private static final int WRITE = 17;
    private static final int CLOSE = 18;
    private static final int COPY = 19;
    private static final int YIELD = 20;
    private static final int OUT = 21;
    private static final int OWN_NUMBER = 22;
    private static final int PARENT_NUMBER = 23;
    private static final int KILL = 24;

    private final int[] codeWhat = new int[CODE_SIZE];
    private final int[] codeNumber = new int[CODE_SIZE];

    private final int[] states = new int[PROCESSES];
    private final int[] spots = new int[PROCESSES];
    private final int[] results = new int[PROCESSES];
    private final int[] parents = new int[PROCESSES];
    private final int[] registers = new int[ALL_REGISTERS];
    private final int[] memory = new int[ALL_WORDS];
    // Held as descriptor(p, d) answers them; free and ended processes hold nothing,
    // so that a look at all of them tells which pipes are there.
    private final int[] descriptors = new int[ALL_DESCRIPTORS];

    private final int[] pipeWords = new int[ALL_PIPE_WORDS];
    private final int[] pipeLengths = new int[PIPES];

    private final int[] queue = new int[PROCESSES];
    private int queueLength;

    private final int[] outputKept = new int[OUTPUT_KEPT];
    private int printedCount;
    private long executedCount;

    // The document lets the level show in no answer, so nothing reads it.
    private int memoryLevel;

    public TeachingKernel() {
        memoryLevel = FIRST_LEVEL;
    }

    public boolean code(int i, int what, int n) {
        if (!isSpot(i) || what < 0 || what > MOST_WHAT || (what & OP_MASK) > KILL) {
            return false;
        }
        codeWhat[i] = what;
        codeNumber[i] = n;
        return true;
    }

    public int spawn(int spot, int x) {
        int p = smallestFree();
        if (p == NONE) {
            return BAD;
        }
        for (int r = 0; r < REGISTERS; r++) {
            registers[p * REGISTERS + r] = 0;
        }
        for (int i = 0; i < WORDS; i++) {
            memory[p * WORDS + i] = 0;
        }
        registers[p * REGISTERS] = x;
        spots[p] = spot;
        parents[p] = NONE;
        makeReady(p);
        return p;
    }

    public int run(int n) {
        int most = n > MOST_TURNS ? MOST_TURNS : n;
        int turns = 0;
        while (turns < most) {
            wakeWaiting();
            if (queueLength == 0) {
                return turns;
            }
            int p = queue[0];
            leaveQueue(p);
            work(p);
            turns++;
        }
        return turns;
    }

    public int state(int p) {
        return isProcess(p) ? states[p] : BAD;
    }

    public int spot(int p) {
        if (isAlive(p)) {
            return spots[p];
        }
        return isProcess(p) && states[p] == ENDED ? results[p] : BAD;
    }

    public int parent(int p) {
        return isProcess(p) && states[p] != FREE ? parents[p] : BAD;
    }

    public int register(int p, int r) {
        return isAlive(p) && r >= 0 && r < REGISTERS ? registers[p * REGISTERS + r] : 0;
    }

    public int word(int p, int i) {
        return isAlive(p) && isWord(i) ? memory[p * WORDS + i] : 0;
    }

    public int descriptor(int p, int d) {
        return isAlive(p) ? pipeEnd(p, d) : NOTHING;
    }

    public int pipe(int k) {
        if (k < 0 || k >= PIPES) {
            return BAD;
        }
        return isThere(k) ? pipeLengths[k] : NONE;
    }

    public long executed() {
        return executedCount;
    }

    public int printed() {
        return printedCount;
    }

    public int output(int k) {
        return k >= 0 && k < OUTPUT_KEPT ? outputKept[k] : 0;
    }

    public boolean kill(int p, int result) {
        if (!isAlive(p)) {
            return false;
        }
        finish(p, result);
        return true;
    }

    public boolean level(int k) {
        if (k < 0 || k >= LEVELS) {
            return false;
        }
        memoryLevel = k;
        return true;
    }

    private boolean isSpot(int i) {
        return i >= 0 && i < CODE_SIZE;
    }

    private boolean isWord(int i) {
        return i >= 0 && i < WORDS;
    }

    private boolean isProcess(int p) {
        return p >= 0 && p < PROCESSES;
    }

    private boolean isAlive(int p) {
        return isProcess(p) && (states[p] == READY || states[p] == WAITING);
    }

    private boolean isChild(int child, int p) {
        return states[child] != FREE && parents[child] == p;
    }

    private int smallestFree() {
        for (int p = 0; p < PROCESSES; p++) {
            if (states[p] == FREE) {
                return p;
            }
        }
        return NONE;
    }

    private boolean hasChild(int p) {
        for (int child = 0; child < PROCESSES; child++) {
            if (isChild(child, p)) {
                return true;
            }
        }
        return false;
    }

    private int smallestEndedChild(int p) {
        for (int child = 0; child < PROCESSES; child++) {
            if (states[child] == ENDED && isChild(child, p)) {
                return child;
            }
        }
        return NONE;
    }

    private void makeReady(int p) {
        states[p] = READY;
        // A process stands in the queue at most once, so there is always room.
        if (queueLength < PROCESSES) {
            queue[queueLength] = p;
            queueLength++;
        }
    }

    private void leaveQueue(int p) {
        int kept = 0;
        for (int i = 0; i < queueLength; i++) {
            if (queue[i] != p) {
                queue[kept] = queue[i];
                kept++;
            }
        }
        queueLength = kept;
    }

    private void wakeWaiting() {
        for (int p = 0; p < PROCESSES; p++) {
            if (states[p] == WAITING && !mustWait(p)) {
                makeReady(p);
            }
        }
    }

    private void work(int p) {
        for (int done = 0; done < TURN_INSTRUCTIONS; done++) {
            if (mustWait(p)) {
                states[p] = WAITING;
                return;
            }
            boolean yields = opAt(p) == YIELD;
            execute(p);
            if (states[p] != READY) {
                return;
            }
            if (yields) {
                break;
            }
        }
        makeReady(p);
    }

    private int opAt(int p) {
        int at = spots[p];
        return isSpot(at) ? codeWhat[at] & OP_MASK : NONE;
    }

    // Asked before an instruction is executed as well as to wake a process, so that both
    // always agree; execution itself then never meets a case in which it would wait.
    private boolean mustWait(int p) {
        int op = opAt(p);
        if (op == WAIT) {
            return hasChild(p) && smallestEndedChild(p) == NONE;
        }
        if (op != READ && op != WRITE) {
            return false;
        }
        int b = p * REGISTERS + (codeWhat[spots[p]] >> B_SHIFT & REGISTER_MASK);
        int end = pipeEnd(p, registers[b]);
        if (op == READ) {
            return isReadingEnd(end) && pipeLengths[pipeOf(end)] == 0 && isHeld(end + 1);
        }
        return isWritingEnd(end) && pipeLengths[pipeOf(end)] == PIPE_WORDS && isHeld(end - 1);
    }

    // a and b are places in registers, not register numbers, from here on.
    private void execute(int p) {
        executedCount++;
        int at = spots[p];
        if (!isSpot(at)) {
            finish(p, RESULT_BAD_SPOT);
            return;
        }
        int what = codeWhat[at];
        int a = p * REGISTERS + (what >> A_SHIFT & REGISTER_MASK);
        int b = p * REGISTERS + (what >> B_SHIFT & REGISTER_MASK);
        int n = codeNumber[at];
        // First, so that a jump can overwrite it and a fork copies it.
        spots[p] = at + 1;
        int op = what & OP_MASK;
        switch (op) {
            case END: finish(p, registers[a]); break;
            case LOAD: load(p, a, registers[b] + n); break;
            case STORE: store(p, a, registers[b] + n); break;
            case JUMP_IF_ZERO: jumpIf(registers[a] == 0, p, n); break;
            case JUMP: jumpIf(true, p, n); break;
            case JUMP_IF_NOT_ZERO: jumpIf(registers[a] != 0, p, n); break;
            case FORK: fork(p, a); break;
            case WAIT: collect(p, a, b); break;
            case PIPE: openPipe(p, a, b); break;
            case READ: read(p, a, b); break;
            case WRITE: write(p, a, b); break;
            case CLOSE: close(p, a, b); break;
            case COPY: copyEnd(p, a, b); break;
            case YIELD: break;
            case OUT: print(registers[a]); break;
            case OWN_NUMBER: registers[a] = p; break;
            case PARENT_NUMBER: registers[a] = parents[p]; break;
            case KILL: killOther(p, a, b); break;
            default: compute(op, a, b, n); break;
        }
    }

    private void compute(int op, int a, int b, int n) {
        switch (op) {
            case SET: registers[a] = n; break;
            case MOVE: registers[a] = registers[b]; break;
            case ADD: registers[a] = registers[a] + registers[b]; break;
            case SUBTRACT: registers[a] = registers[a] - registers[b]; break;
            case MULTIPLY: registers[a] = registers[a] * registers[b]; break;
            case ADD_NUMBER: registers[a] = registers[a] + n; break;
            case LESS: registers[a] = registers[a] < registers[b] ? 1 : 0; break;
            default: break;
        }
    }

    private void load(int p, int a, int i) {
        if (isWord(i)) {
            registers[a] = memory[p * WORDS + i];
        } else {
            finish(p, RESULT_BAD_WORD);
        }
    }

    private void store(int p, int a, int i) {
        if (isWord(i)) {
            memory[p * WORDS + i] = registers[a];
        } else {
            finish(p, RESULT_BAD_WORD);
        }
    }

    private void jumpIf(boolean jumps, int p, int n) {
        if (jumps) {
            spots[p] = n;
        }
    }

    private void fork(int p, int a) {
        int child = smallestFree();
        if (child == NONE) {
            registers[a] = -2;
            return;
        }
        // Set before the copy and then overwritten here: the copy keeps -1.
        registers[a] = -1;
        for (int r = 0; r < REGISTERS; r++) {
            registers[child * REGISTERS + r] = registers[p * REGISTERS + r];
        }
        for (int i = 0; i < WORDS; i++) {
            memory[child * WORDS + i] = memory[p * WORDS + i];
        }
        for (int d = 0; d < DESCRIPTORS; d++) {
            descriptors[child * DESCRIPTORS + d] = descriptors[p * DESCRIPTORS + d];
        }
        registers[a] = child;
        spots[child] = spots[p];
        parents[child] = p;
        makeReady(child);
    }

    private void collect(int p, int a, int b) {
        int child = smallestEndedChild(p);
        if (child == NONE) {
            registers[a] = -1;
            return;
        }
        registers[a] = results[child];
        registers[b] = child;
        states[child] = FREE;
    }

    private void openPipe(int p, int a, int b) {
        int reading = nextNothing(p, 0);
        int writing = nextNothing(p, reading + 1);
        int k = smallestPipeNotThere();
        if (reading == NONE || writing == NONE || k == NONE) {
            registers[a] = -1;
            return;
        }
        descriptors[p * DESCRIPTORS + reading] = 1 + 2 * k;
        descriptors[p * DESCRIPTORS + writing] = 2 + 2 * k;
        pipeLengths[k] = 0;
        registers[a] = reading;
        registers[b] = writing;
    }

    private void read(int p, int a, int b) {
        int end = pipeEnd(p, registers[b]);
        if (!isReadingEnd(end)) {
            registers[a] = -1;
            return;
        }
        int k = pipeOf(end);
        if (pipeLengths[k] == 0) {
            registers[a] = -2;
            return;
        }
        int first = k * PIPE_WORDS;
        registers[a] = pipeWords[first];
        for (int i = 1; i < PIPE_WORDS; i++) {
            pipeWords[first + i - 1] = pipeWords[first + i];
        }
        pipeLengths[k]--;
    }

    private void write(int p, int a, int b) {
        int end = pipeEnd(p, registers[b]);
        if (!isWritingEnd(end)) {
            registers[a] = -1;
            return;
        }
        if (!isHeld(end - 1)) {
            finish(p, RESULT_NO_READER);
            return;
        }
        int k = pipeOf(end);
        if (pipeLengths[k] < PIPE_WORDS) {
            pipeWords[k * PIPE_WORDS + pipeLengths[k]] = registers[a];
            pipeLengths[k]++;
        }
    }

    private void close(int p, int a, int b) {
        int d = registers[b];
        if (pipeEnd(p, d) == NOTHING) {
            registers[a] = -1;
            return;
        }
        descriptors[p * DESCRIPTORS + d] = NOTHING;
        registers[a] = 0;
    }

    private void copyEnd(int p, int a, int b) {
        int end = pipeEnd(p, registers[b]);
        int d = nextNothing(p, 0);
        if (end == NOTHING || d == NONE) {
            registers[a] = -1;
            return;
        }
        descriptors[p * DESCRIPTORS + d] = end;
        registers[a] = d;
    }

    private void print(int x) {
        if (printedCount >= 0 && printedCount < OUTPUT_KEPT) {
            outputKept[printedCount] = x;
        }
        printedCount++;
    }

    private void killOther(int p, int a, int b) {
        int other = registers[b];
        if (other == p || !isAlive(other)) {
            registers[a] = -1;
            return;
        }
        finish(other, RESULT_KILLED);
        registers[a] = 0;
    }

    private void finish(int p, int result) {
        leaveQueue(p);
        for (int d = 0; d < DESCRIPTORS; d++) {
            descriptors[p * DESCRIPTORS + d] = NOTHING;
        }
        for (int child = 0; child < PROCESSES; child++) {
            if (isChild(child, p)) {
                parents[child] = NONE;
                states[child] = states[child] == ENDED ? FREE : states[child];
            }
        }
        results[p] = result;
        states[p] = parents[p] == NONE ? FREE : ENDED;
    }

    private int pipeEnd(int p, int d) {
        return d >= 0 && d < DESCRIPTORS ? descriptors[p * DESCRIPTORS + d] : NOTHING;
    }

    private boolean isReadingEnd(int end) {
        return end != NOTHING && (end & 1) == 1;
    }

    private boolean isWritingEnd(int end) {
        return end != NOTHING && (end & 1) == 0;
    }

    private int pipeOf(int end) {
        return (end - 1) / 2;
    }

    private boolean isHeld(int end) {
        for (int i = 0; i < ALL_DESCRIPTORS; i++) {
            if (descriptors[i] == end) {
                return true;
            }
        }
        return false;
    }

    private boolean isThere(int k) {
        for (int i = 0; i < ALL_DESCRIPTORS; i++) {
            if (descriptors[i] == 1 + 2 * k || descriptors[i] == 2 + 2 * k) {
                return true;
            }
        }
        return false;
    }

    private int smallestPipeNotThere() {
        for (int k = 0; k < PIPES; k++) {
            if (!isThere(k)) {
                return k;
            }
        }
        return NONE;
    }

    private int nextNothing(int p, int from) {
        for (int d = from; d < DESCRIPTORS; d++) {
            if (descriptors[p * DESCRIPTORS + d] == NOTHING) {
                return d;
            }
        }
        return NONE;
    }
}
