/** The instructions of one process: numbers, jumps, output, ends (promises 4, 6 to 8 and 12 to 14). */
public final class InstructionsTest {
    private static final int MIN = Integer.MIN_VALUE;
    private static final int MAX = Integer.MAX_VALUE;

    public static void main(String[] args) {
        endHasTheResultOfItsRegister();
        numbers();
        jumps();
        ownNumberAndParent();
        outAddsInOrder();
        Checks.close();
    }

    private static void endHasTheResultOfItsRegister() {
        for (int a = 0; a < 4; a++) {
            Machine m = Machine.withChild("end a " + a).set(1, 8).set(2, MIN).set(3, MAX).put(Machine.END, a, 1, 99);
            int[] want = {7, 8, MIN, MAX};
            m.spawn(0, 7, 0).run(8, 8).state(1, TeachingKernel.ENDED).spot(1, want[a]).state(0, TeachingKernel.READY);
        }
    }

    private static int compute(int op, int x, int y, int n) {
        Machine m = new Machine("op " + op).set(1, y).put(op, 0, 1, n).put(Machine.YIELD);
        m.spawn(0, x, 0).run(1, 1).spot(0, 3).registers(0, m.kernel.register(0, 0), y, 0, 0).executed(3);
        return m.kernel.register(0, 0);
    }

    private static void numbers() {
        int[] some = {0, 1, -1, 2, 7, -13, 65536, 46341, MAX, MIN, MIN + 1, MAX - 1};
        for (int x : some) {
            for (int y : some) {
                String on = " on " + x + ", " + y;
                Checks.due("set" + on, compute(Machine.SET, x, 3, y), y);
                Checks.due("move" + on, compute(Machine.MOVE, x, y, 9), y);
                Checks.due("add" + on, compute(Machine.ADD, x, y, 9), x + y);
                Checks.due("subtract" + on, compute(Machine.SUBTRACT, x, y, 9), x - y);
                Checks.due("multiply" + on, compute(Machine.MULTIPLY, x, y, 9), x * y);
                Checks.due("add number" + on, compute(Machine.ADD_NUMBER, x, 3, y), x + y);
                Checks.due("less" + on, compute(Machine.LESS, x, y, 9), x < y ? 1 : 0);
            }
        }
        Machine m = new Machine("a is b").put(Machine.ADD, 0, 0).put(Machine.MULTIPLY, 0, 0).put(Machine.YIELD);
        m.put(Machine.LESS, 0, 0).put(Machine.ADD_NUMBER, 0, 0, 5).put(Machine.YIELD);
        m.put(Machine.SUBTRACT, 0, 0).put(Machine.YIELD);
        m.spawn(0, 3, 0).run(1, 1).register(0, 0, 36).run(1, 1).register(0, 0, 5).run(1, 1).register(0, 0, 0);
    }

    private static void jumps() {
        for (int x : new int[] {0, 1, -1, MIN, MAX}) {
            int zero = x == 0 ? 40 : 1;
            int other = x == 0 ? 1 : 40;
            jump(Machine.JUMP_IF_ZERO, x, zero);
            jump(Machine.JUMP, x, 40);
            jump(Machine.JUMP_IF_NOT_ZERO, x, other);
        }
        Machine m = new Machine("jump to itself").at(5).jump(5).spawn(5, 0, 0).run(4, 4).spot(0, 5).executed(12);
        m.kill(0, 0, true).run(80, 0);
    }

    private static void jump(int op, int x, int goal) {
        Machine m = new Machine("jump " + op + " at " + x).put(op, 2, 1, 40).put(Machine.YIELD).at(40).put(Machine.YIELD);
        m.at(10).put(Machine.MOVE, 2, 0).jump(12).put(Machine.YIELD).jump(0);
        m.spawn(10, x, 0).run(2, 2).spot(0, goal + 1).register(0, 2, x).executed(6);
    }

    private static void ownNumberAndParent() {
        Machine m = new Machine("numbers").put(Machine.OWN_NUMBER, 1).put(Machine.PARENT_NUMBER, 2).put(Machine.FORK, 3);
        m.put(Machine.OWN_NUMBER, 1).put(Machine.PARENT_NUMBER, 2).put(Machine.YIELD).put(Machine.PARENT_NUMBER, 2);
        m.put(Machine.YIELD).jump(7);
        m.spawn(40, 0, 0).spawn(40, 0, 1).spawn(0, 0, 2).run(3, 3);
        m.registers(2, 0, 2, -1, 0).registers(0, 0, 2, -1, -1).parent(0, 2).parent(2, -1);
        m.run(2, 2).registers(0, 0, 0, 2, -1).registers(2, 0, 2, -1, 0);
        m.kill(2, 0, true).parent(0, -1).run(1, 1).registers(0, 0, 0, -1, -1);
    }

    private static void outAddsInOrder() {
        Machine m = new Machine("out").put(Machine.OUT, 0).set(2, MIN).put(Machine.OUT, 2).put(Machine.OUT, 1).put(Machine.END);
        m.spawn(0, 9, 0).spawn(0, MAX, 1).run(1, 1).output(9, MIN).run(80, 3).output(9, MIN, MAX, MIN, 0, 0).executed(10);
    }
}
