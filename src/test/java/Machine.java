/** A kernel with a hand to write its code, one instruction behind the other. */
final class Machine {
    static final int END = 0;
    static final int SET = 1;
    static final int MOVE = 2;
    static final int ADD = 3;
    static final int SUBTRACT = 4;
    static final int MULTIPLY = 5;
    static final int ADD_NUMBER = 6;
    static final int LESS = 7;
    static final int LOAD = 8;
    static final int STORE = 9;
    static final int JUMP_IF_ZERO = 10;
    static final int JUMP = 11;
    static final int JUMP_IF_NOT_ZERO = 12;
    static final int FORK = 13;
    static final int WAIT = 14;
    static final int PIPE = 15;
    static final int READ = 16;
    static final int WRITE = 17;
    static final int CLOSE = 18;
    static final int COPY = 19;
    static final int YIELD = 20;
    static final int OUT = 21;
    static final int OWN_NUMBER = 22;
    static final int PARENT_NUMBER = 23;
    static final int KILL = 24;

    final String name;
    final TeachingKernel kernel = new TeachingKernel();
    private int next = 0;

    Machine(String name) {
        this.name = name;
    }

    static int what(int op, int a, int b) {
        return op + 32 * a + 128 * b;
    }

    Machine at(int spot) {
        next = spot;
        return this;
    }

    Machine put(int op, int a, int b, int n) {
        Checks.due(name + ": code at " + next, kernel.code(next, what(op, a, b), n), true);
        next++;
        return this;
    }

    Machine put(int op) {
        return put(op, 0, 0, 0);
    }

    Machine put(int op, int a) {
        return put(op, a, 0, 0);
    }

    Machine put(int op, int a, int b) {
        return put(op, a, b, 0);
    }

    Machine set(int a, int n) {
        return put(SET, a, 0, n);
    }

    Machine jump(int spot) {
        return put(JUMP, 0, 0, spot);
    }

    Machine spawn(int spot, int x, int number) {
        Checks.due(name + ": spawn(" + spot + ", " + x + ")", kernel.spawn(spot, x), number);
        return this;
    }

    Machine run(int n, int turns) {
        Checks.due(name + ": run(" + n + ")", kernel.run(n), turns);
        return this;
    }

    Machine kill(int p, int result, boolean done) {
        Checks.due(name + ": kill(" + p + ", " + result + ")", kernel.kill(p, result), done);
        return this;
    }

    Machine state(int p, int want) {
        Checks.due(name + ": state(" + p + ")", kernel.state(p), want);
        return this;
    }

    Machine spot(int p, int want) {
        Checks.due(name + ": spot(" + p + ")", kernel.spot(p), want);
        return this;
    }

    Machine parent(int p, int want) {
        Checks.due(name + ": parent(" + p + ")", kernel.parent(p), want);
        return this;
    }

    Machine register(int p, int r, int want) {
        Checks.due(name + ": register(" + p + ", " + r + ")", kernel.register(p, r), want);
        return this;
    }

    Machine registers(int p, int r0, int r1, int r2, int r3) {
        return register(p, 0, r0).register(p, 1, r1).register(p, 2, r2).register(p, 3, r3);
    }

    Machine word(int p, int i, int want) {
        Checks.due(name + ": word(" + p + ", " + i + ")", kernel.word(p, i), want);
        return this;
    }

    Machine descriptor(int p, int d, int want) {
        Checks.due(name + ": descriptor(" + p + ", " + d + ")", kernel.descriptor(p, d), want);
        return this;
    }

    Machine descriptors(int p, int d0, int d1, int d2, int d3) {
        return descriptor(p, 0, d0).descriptor(p, 1, d1).descriptor(p, 2, d2).descriptor(p, 3, d3);
    }

    Machine pipe(int k, int want) {
        Checks.due(name + ": pipe(" + k + ")", kernel.pipe(k), want);
        return this;
    }

    Machine executed(long want) {
        Checks.due(name + ": executed()", kernel.executed(), want);
        return this;
    }

    Machine output(int... want) {
        Checks.due(name + ": printed()", kernel.printed(), want.length);
        for (int k = 0; k < want.length && k < 32; k++) {
            Checks.due(name + ": output(" + k + ")", kernel.output(k), want[k]);
        }
        return this;
    }
}
