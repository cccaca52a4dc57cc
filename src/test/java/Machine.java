/** A kernel with a hand to write its code, one instruction behind the other. */
final class Machine {
    static final int END = 0;
    static final int SET = 1;
    static final int MOVE = 2;
    static final int ADD = 3;
    static final int SUBTRACT = 4;
    static final int MULTIPLY = 5;
    static final int ADD_NUMBER = 6;
    static final int LESS = 7;
    static final int LOAD = 8;
    static final int STORE = 9;
    static final int JUMP_IF_ZERO = 10;
    static final int JUMP = 11;
    static final int JUMP_IF_NOT_ZERO = 12;
    static final int FORK = 13;
    static final int WAIT = 14;
    static final int PIPE = 15;
    static final int READ = 16;
    static final int WRITE = 17;
    static final int CLOSE = 18;
    static final int COPY = 19;
    static final int YIELD = 20;
    static final int OUT = 21;
    static final int OWN_NUMBER = 22;
    static final int PARENT_NUMBER = 23;
    static final int KILL = 24;

    private static final int MOST_CALLS = 512;

    final String name;
    final TeachingKernel kernel = new TeachingKernel();
    private int next = 0;
    private int calls = 0;

    Machine(String name) {
        this.name = name;
    }

    /**
     * Once it is spawned at 0, process 0 forks 1, which goes on at 20 within its first turn, and then only
     * yields, so that how 1 ends stays to be seen. Code is put at 20 and behind.
     */
    static Machine withChild(String name) {
        Machine m = new Machine(name).put(FORK, 3).put(ADD_NUMBER, 3, 0, 1).put(JUMP_IF_ZERO, 3, 0, 20);
        return m.put(YIELD).jump(3).at(20);
    }

    /**
     * Once it is spawned at 0 with x = how many, process 0 forks that many children, which yield on and on at
     * 60, and goes on at 20 with r0 = 0. Code is put at 20 and behind.
     */
    static Machine withChildren(String name) {
        Machine m = new Machine(name).put(FORK, 1).put(ADD_NUMBER, 1, 0, 1).put(JUMP_IF_ZERO, 1, 0, 60);
        m.put(ADD_NUMBER, 0, 0, -1).put(JUMP_IF_NOT_ZERO, 0, 0, 0).jump(20);
        return m.at(60).put(YIELD).jump(60).at(20);
    }

    static int what(int op, int a, int b) {
        return op + 32 * a + 128 * b;
    }

    private void due(String call, long got, long want) {
        calls++;
        Checks.due(name + ": " + call, got, want);
        if (calls == MOST_CALLS + 1) {
            Checks.due(name + ": calls, of which the later ones are free", calls, MOST_CALLS);
        }
    }

    private void due(String call, boolean got, boolean want) {
        due(call, got ? 1L : 0L, want ? 1L : 0L);
    }

    Machine at(int spot) {
        next = spot;
        return this;
    }

    Machine put(int op, int a, int b, int n) {
        due("code at " + next, kernel.code(next, what(op, a, b), n), true);
        next++;
        return this;
    }

    Machine put(int op) {
        return put(op, 0, 0, 0);
    }

    Machine put(int op, int a) {
        return put(op, a, 0, 0);
    }

    Machine put(int op, int a, int b) {
        return put(op, a, b, 0);
    }

    Machine set(int a, int n) {
        return put(SET, a, 0, n);
    }

    Machine jump(int spot) {
        return put(JUMP, 0, 0, spot);
    }

    Machine spawn(int spot, int x, int number) {
        due("spawn(" + spot + ", " + x + ")", kernel.spawn(spot, x), number);
        return this;
    }

    Machine run(int n, int turns) {
        due("run(" + n + ")", kernel.run(n), turns);
        return this;
    }

    Machine kill(int p, int result, boolean done) {
        due("kill(" + p + ", " + result + ")", kernel.kill(p, result), done);
        return this;
    }

    Machine code(int i, int what, int n, boolean done) {
        due("code(" + i + ", " + what + ", " + n + ")", kernel.code(i, what, n), done);
        return this;
    }

    Machine level(int k, boolean done) {
        due("level(" + k + ")", kernel.level(k), done);
        return this;
    }

    Machine free(int p) {
        return state(p, TeachingKernel.FREE).spot(p, TeachingKernel.BAD).parent(p, TeachingKernel.BAD);
    }

    Machine ready(int p, int spot) {
        return state(p, TeachingKernel.READY).spot(p, spot);
    }

    Machine waiting(int p, int spot) {
        return state(p, TeachingKernel.WAITING).spot(p, spot);
    }

    Machine ended(int p, int result) {
        return state(p, TeachingKernel.ENDED).spot(p, result);
    }

    Machine state(int p, int want) {
        due("state(" + p + ")", kernel.state(p), want);
        return this;
    }

    Machine spot(int p, int want) {
        due("spot(" + p + ")", kernel.spot(p), want);
        return this;
    }

    Machine parent(int p, int want) {
        due("parent(" + p + ")", kernel.parent(p), want);
        return this;
    }

    Machine register(int p, int r, int want) {
        due("register(" + p + ", " + r + ")", kernel.register(p, r), want);
        return this;
    }

    Machine registers(int p, int r0, int r1, int r2, int r3) {
        return register(p, 0, r0).register(p, 1, r1).register(p, 2, r2).register(p, 3, r3);
    }

    Machine word(int p, int i, int want) {
        due("word(" + p + ", " + i + ")", kernel.word(p, i), want);
        return this;
    }

    Machine descriptor(int p, int d, int want) {
        due("descriptor(" + p + ", " + d + ")", kernel.descriptor(p, d), want);
        return this;
    }

    Machine descriptors(int p, int d0, int d1, int d2, int d3) {
        return descriptor(p, 0, d0).descriptor(p, 1, d1).descriptor(p, 2, d2).descriptor(p, 3, d3);
    }

    Machine pipe(int k, int want) {
        due("pipe(" + k + ")", kernel.pipe(k), want);
        return this;
    }

    Machine executed(long want) {
        due("executed()", kernel.executed(), want);
        return this;
    }

    Machine printed(int want) {
        due("printed()", kernel.printed(), want);
        return this;
    }

    Machine outputAt(int k, int want) {
        due("output(" + k + ")", kernel.output(k), want);
        return this;
    }

    Machine output(int... want) {
        printed(want.length);
        for (int k = 0; k < want.length && k < 32; k++) {
            outputAt(k, want[k]);
        }
        return this;
    }
}
