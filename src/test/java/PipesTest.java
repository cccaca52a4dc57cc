/** Pipes and descriptors in ordinary runs: open, read, write, close, copy (promises 10 and 11). */
public final class PipesTest {
    public static void main(String[] args) {
        pipeTakesTheSmallest();
        wordsComeInOrder();
        closeAndCopy();
        readersOfOneWord();
        Checks.close();
    }

    private static void pipeTakesTheSmallest() {
        Machine m = new Machine("smallest").put(Machine.PIPE, 1, 2).put(Machine.PIPE, 3, 0).put(Machine.YIELD);
        m.set(1, 0).put(Machine.CLOSE, 1, 1).put(Machine.YIELD);
        m.set(1, 2).put(Machine.CLOSE, 1, 1).put(Machine.PIPE, 2, 3).put(Machine.YIELD).jump(9);
        m.spawn(0, 9, 0).run(1, 1).registers(0, 3, 0, 1, 2).descriptors(0, 1, 2, 3, 4).pipe(0, 0).pipe(1, 0).pipe(2, -1);
        m.run(1, 1).descriptors(0, 0, 2, 3, 4).pipe(0, 0).register(0, 1, 0);
        m.run(1, 1).descriptors(0, 5, 2, 6, 4).registers(0, 3, 0, 0, 2).pipe(0, 0).pipe(1, 0).pipe(2, 0);
    }

    private static void wordsComeInOrder() {
        Machine m = new Machine("in order").put(Machine.PIPE, 1, 2).put(Machine.WRITE, 0, 2).put(Machine.ADD_NUMBER, 0, 0, 1);
        m.put(Machine.WRITE, 0, 2).put(Machine.WRITE, 2, 2).put(Machine.WRITE, 1, 2).put(Machine.READ, 3, 1);
        m.put(Machine.OUT, 3).put(Machine.WRITE, 0, 2).put(Machine.READ, 3, 1).put(Machine.OUT, 3).put(Machine.READ, 3, 1);
        m.put(Machine.OUT, 3).put(Machine.READ, 3, 1).put(Machine.OUT, 3).put(Machine.READ, 1, 1).put(Machine.OUT, 1);
        m.put(Machine.YIELD);
        m.spawn(0, -40, 0).run(1, 1).pipe(0, 1).register(0, 0, -39).run(1, 1).pipe(0, 4).registers(0, -39, 0, 1, 0);
        m.run(1, 1).pipe(0, 4).run(3, 3).pipe(0, 0).output(-40, -39, 1, 0, -39).pipe(1, -1);
    }

    private static void closeAndCopy() {
        Machine m = new Machine("close and copy").put(Machine.PIPE, 1, 2).put(Machine.COPY, 3, 2).put(Machine.COPY, 0, 1);
        m.put(Machine.COPY, 3, 1).put(Machine.CLOSE, 1, 1).put(Machine.CLOSE, 2, 2);
        m.put(Machine.COPY, 3, 0).put(Machine.CLOSE, 0, 0).put(Machine.YIELD).set(1, 2).put(Machine.CLOSE, 2, 1);
        m.set(1, 0).put(Machine.CLOSE, 2, 1).put(Machine.CLOSE, 2, 1).put(Machine.YIELD);
        m.spawn(0, 0, 0).run(1, 1).registers(0, 3, 0, 1, 2).descriptors(0, 1, 2, 2, 1);
        m.run(1, 1).registers(0, 3, 0, 0, -1).descriptors(0, 0, 0, 2, 1).pipe(0, 0);
        m.run(1, 1).registers(0, 0, 0, 0, 0).descriptors(0, 1, 0, 2, 0).pipe(0, 0);
        m.run(1, 1).descriptors(0, 1, 0, 0, 0).pipe(0, 0).run(1, 1).descriptors(0, 0, 0, 0, 0).pipe(0, -1);
        m.register(0, 2, -1);
    }

    /** One word wakes three readers; the first takes it, and the others wait again without executing. */
    private static void readersOfOneWord() {
        Machine m = new Machine("readers").put(Machine.PIPE, 1, 2).put(Machine.FORK, 3).put(Machine.FORK, 3);
        m.put(Machine.OWN_NUMBER, 0).put(Machine.JUMP_IF_ZERO, 0, 0, 10).put(Machine.READ, 3, 1).put(Machine.OUT, 0);
        m.put(Machine.OUT, 3).put(Machine.YIELD).jump(8).put(Machine.YIELD).put(Machine.YIELD).put(Machine.YIELD);
        m.put(Machine.YIELD).set(0, 500).put(Machine.WRITE, 0, 2).put(Machine.YIELD).jump(16);
        m.spawn(0, 0, 0).run(10, 10).pipe(0, 1).executed(19).parent(3, 1);
        m.state(1, TeachingKernel.WAITING).state(2, TeachingKernel.WAITING).state(3, TeachingKernel.WAITING);
        m.run(1, 1).pipe(0, 1).executed(21);
        m.state(1, TeachingKernel.READY).state(2, TeachingKernel.READY).state(3, TeachingKernel.READY);
        m.run(1, 1).pipe(0, 0).output(1, 500).state(2, TeachingKernel.READY).executed(24);
        m.run(1, 1).state(2, TeachingKernel.WAITING).spot(2, 5).state(3, TeachingKernel.READY).executed(24);
        m.run(1, 1).state(3, TeachingKernel.WAITING).executed(24).output(1, 500);
    }
}
