/** Pipes and descriptors: open, read, write, close, copy (promises 10 and 11). */
public final class PipesTest {
    public static void main(String[] args) {
        pipeTakesTheSmallest();
        pipeNeedsTwoDescriptors();
        pipeNeedsOneThatIsNotThere();
        pipeWithTheSameRegisterTwice();
        wordsComeInOrder();
        readRefused();
        readOfAnEmptyPipe();
        writeRefused();
        writeWithoutAReader();
        writeToAFullPipe();
        closeAndCopy();
        pipeThatComesBackIsEmpty();
        endClosesAll();
        readersOfOneWord();
        Checks.close();
    }

    private static void pipeTakesTheSmallest() {
        Machine m = new Machine("smallest").put(Machine.PIPE, 1, 2).put(Machine.PIPE, 3, 0).put(Machine.YIELD);
        m.set(1, 0).put(Machine.CLOSE, 1, 1).put(Machine.YIELD);
        m.set(1, 2).put(Machine.CLOSE, 1, 1).put(Machine.PIPE, 2, 3).put(Machine.YIELD).jump(9);
        m.spawn(0, 9, 0).run(1, 1).registers(0, 2 + 1, 0, 1, 2).descriptors(0, 1, 2, 3, 4).pipe(0, 0).pipe(1, 0).pipe(2, -1);
        m.run(1, 1).descriptors(0, 0, 2, 3, 4).pipe(0, 0).register(0, 1, 0);
        m.run(1, 1).descriptors(0, 5, 2, 6, 4).registers(0, 3, 0, 0, 2).pipe(0, 0).pipe(1, 0).pipe(2, 0);
    }

    private static void pipeNeedsTwoDescriptors() {
        Machine m = new Machine("two descriptors").put(Machine.PIPE, 1, 2).put(Machine.PIPE, 1, 2).put(Machine.PIPE, 1, 2);
        m.set(3, 3).put(Machine.CLOSE, 0, 3).put(Machine.PIPE, 1, 2).put(Machine.YIELD);
        m.spawn(0, 5, 0).run(1, 1).registers(0, 5, -1, 3, 0).descriptors(0, 1, 2, 3, 4).pipe(2, -1);
        m.run(1, 1).registers(0, 0, -1, 3, 3).descriptors(0, 1, 2, 3, 0).pipe(1, 0).pipe(2, -1);
    }

    private static void pipeNeedsOneThatIsNotThere() {
        Machine m = new Machine("one not there").put(Machine.PIPE, 1, 2).put(Machine.YIELD).jump(1);
        m.spawn(0, 0, 0).spawn(0, 0, 1).spawn(0, 0, 2).spawn(0, 0, 3).run(4, 4);
        m.descriptors(0, 1, 2, 0, 0).descriptors(1, 3, 4, 0, 0).descriptors(2, 5, 6, 0, 0).descriptors(3, 0, 0, 0, 0);
        m.registers(2, 0, 0, 1, 0).registers(3, 0, -1, 0, 0).pipe(0, 0).pipe(1, 0).pipe(2, 0);
        m.kill(1, 0, true).pipe(1, -1).spawn(0, 0, 1).spawn(0, 0, 4).run(6, 6);
        m.descriptors(1, 3, 4, 0, 0).registers(4, 0, -1, 0, 0);
    }

    private static void pipeWithTheSameRegisterTwice() {
        Machine m = new Machine("same register").put(Machine.PIPE, 2, 2).put(Machine.YIELD);
        m.spawn(0, 0, 0).run(1, 1).registers(0, 0, 0, 1, 0);
    }

    private static void wordsComeInOrder() {
        Machine m = new Machine("in order").put(Machine.PIPE, 1, 2).put(Machine.WRITE, 0, 2).put(Machine.ADD_NUMBER, 0, 0, 1);
        m.put(Machine.WRITE, 0, 2).put(Machine.WRITE, 2, 2).put(Machine.WRITE, 1, 2).put(Machine.READ, 3, 1);
        m.put(Machine.OUT, 3).put(Machine.WRITE, 0, 2).put(Machine.READ, 3, 1).put(Machine.OUT, 3).put(Machine.READ, 3, 1);
        m.put(Machine.OUT, 3).put(Machine.READ, 3, 1).put(Machine.OUT, 3).put(Machine.READ, 1, 1).put(Machine.OUT, 1);
        m.put(Machine.YIELD);
        m.spawn(0, -40, 0).run(1, 1).pipe(0, 1).register(0, 0, -39).run(1, 1).pipe(0, 4).registers(0, -39, 0, 1, 0);
        m.run(1, 1).pipe(0, 4).run(3, 3).pipe(0, 0).output(-40, -39, 1, 0, -39).pipe(1, -1);
    }

    private static void readRefused() {
        for (int d : new int[] {-1, 4, 1, 2, 3, Integer.MIN_VALUE, Integer.MAX_VALUE, 1 << 30}) {
            Machine m = new Machine("read from " + d).put(Machine.PIPE, 1, 2).put(Machine.READ, 3, 0).put(Machine.YIELD);
            m.spawn(0, d, 0).run(1, 1).registers(0, d, 0, 1, -1).state(0, TeachingKernel.READY).executed(3);
        }
    }

    private static void readOfAnEmptyPipe() {
        Machine m = new Machine("empty, a writer").put(Machine.PIPE, 1, 2).put(Machine.READ, 3, 1).put(Machine.YIELD);
        m.spawn(0, 7, 0).run(5, 1).state(0, TeachingKernel.WAITING).spot(0, 1).executed(1).registers(0, 7, 0, 1, 0);
        Machine n = new Machine("empty, no writer").put(Machine.PIPE, 1, 2).put(Machine.WRITE, 0, 2).put(Machine.CLOSE, 3, 2);
        n.put(Machine.READ, 3, 1).put(Machine.READ, 2, 1).put(Machine.YIELD);
        n.spawn(0, 7, 0).run(1, 1).pipe(0, 1).run(1, 1).registers(0, 7, 0, -2, 7).pipe(0, 0).descriptors(0, 1, 0, 0, 0);
        Machine w = new Machine("woken as the writer ends").put(Machine.PIPE, 1, 2).put(Machine.FORK, 3);
        w.put(Machine.ADD_NUMBER, 3, 0, 1).put(Machine.JUMP_IF_ZERO, 3, 0, 10).put(Machine.CLOSE, 3, 2);
        w.put(Machine.READ, 3, 1).put(Machine.OUT, 3).put(Machine.YIELD).at(10).put(Machine.YIELD).put(Machine.YIELD);
        w.put(Machine.END);
        w.spawn(0, 5, 0).run(3, 3).state(0, TeachingKernel.WAITING).spot(0, 5).spot(1, 11).executed(8);
        w.run(2, 2).state(1, TeachingKernel.ENDED).spot(1, 5).state(0, TeachingKernel.WAITING).executed(10);
        w.run(1, 1).output(-2).register(0, 3, -2).state(0, TeachingKernel.READY).executed(13);
    }

    private static void writeRefused() {
        for (int d : new int[] {-1, 4, 0, 2, 3, Integer.MIN_VALUE, Integer.MAX_VALUE, 1 << 30}) {
            Machine m = new Machine("write to " + d).put(Machine.PIPE, 1, 2).put(Machine.WRITE, 2, 0).put(Machine.YIELD);
            m.spawn(0, d, 0).run(1, 1).registers(0, d, 0, -1, 0).state(0, TeachingKernel.READY).pipe(0, 0).executed(3);
        }
    }

    private static void writeWithoutAReader() {
        for (int words = 0; words < 5; words++) {
            Machine m = new Machine(words + " words, no reader").put(Machine.FORK, 3).put(Machine.ADD_NUMBER, 3, 0, 1);
            m.put(Machine.JUMP_IF_ZERO, 3, 0, 6).put(Machine.YIELD).jump(3).at(6).put(Machine.PIPE, 1, 2);
            for (int i = 0; i < words; i++) {
                m.put(Machine.WRITE, 0, 2);
            }
            m.put(Machine.CLOSE, 3, 1).put(Machine.WRITE, 0, 2).put(Machine.YIELD);
            m.spawn(0, 7, 0).run(20, 20).state(1, TeachingKernel.ENDED).spot(1, -2).pipe(0, -1);
        }
        Machine f = new Machine("no parent").put(Machine.PIPE, 1, 2).put(Machine.CLOSE, 3, 1).put(Machine.WRITE, 0, 2);
        f.spawn(0, 7, 0).run(20, 1).state(0, TeachingKernel.FREE).executed(3).pipe(0, -1);
    }

    private static void writeToAFullPipe() {
        Machine m = new Machine("full").put(Machine.PIPE, 1, 2).put(Machine.WRITE, 0, 2).put(Machine.ADD_NUMBER, 0, 0, 1).jump(1);
        m.spawn(0, 0, 0).run(80, 5).state(0, TeachingKernel.WAITING).spot(0, 1).pipe(0, 4).register(0, 0, 4).executed(13);
        m.at(1).put(Machine.READ, 3, 1).put(Machine.OUT, 3).jump(1);
        m.run(80, 5).state(0, TeachingKernel.WAITING).pipe(0, 0).output(0, 1, 2, 3).executed(25);
    }

    private static void closeAndCopy() {
        for (int d : new int[] {-1, 4, 2, 3, Integer.MIN_VALUE, Integer.MAX_VALUE, 1 << 30}) {
            Machine m = new Machine("close and copy of " + d).put(Machine.PIPE, 1, 2).put(Machine.CLOSE, 3, 0);
            m.put(Machine.COPY, 2, 0).put(Machine.YIELD);
            m.spawn(0, d, 0).run(1, 1).registers(0, d, 0, -1, -1).descriptors(0, 1, 2, 0, 0);
        }
        Machine m = new Machine("close and copy").put(Machine.PIPE, 1, 2).put(Machine.COPY, 3, 2).put(Machine.COPY, 0, 1);
        m.put(Machine.COPY, 3, 1).put(Machine.CLOSE, 1, 1).put(Machine.CLOSE, 2, 2);
        m.put(Machine.COPY, 3, 0).put(Machine.CLOSE, 0, 0).put(Machine.YIELD).set(1, 2).put(Machine.CLOSE, 2, 1);
        m.set(1, 0).put(Machine.CLOSE, 2, 1).put(Machine.CLOSE, 2, 1).put(Machine.YIELD);
        m.spawn(0, 0, 0).run(1, 1).registers(0, 3, 0, 1, 2).descriptors(0, 1, 2, 2, 1);
        m.run(1, 1).registers(0, 3, 0, 0, -1).descriptors(0, 0, 0, 2, 1).pipe(0, 0);
        m.run(1, 1).registers(0, 0, 0, 0, 0).descriptors(0, 1, 0, 2, 0).pipe(0, 0);
        m.run(1, 1).descriptors(0, 1, 0, 0, 0).pipe(0, 0).run(1, 1).descriptors(0, 0, 0, 0, 0).pipe(0, -1);
        m.register(0, 2, -1);
    }

    private static void pipeThatComesBackIsEmpty() {
        Machine m = new Machine("comes back").put(Machine.PIPE, 1, 2).put(Machine.WRITE, 0, 2).put(Machine.WRITE, 0, 2);
        m.put(Machine.CLOSE, 3, 1).put(Machine.CLOSE, 3, 2).put(Machine.YIELD);
        m.put(Machine.PIPE, 1, 2).put(Machine.READ, 3, 1).put(Machine.YIELD);
        m.spawn(0, 7, 0).run(1, 1).pipe(0, 2).run(1, 1).pipe(0, -1).run(1, 1).pipe(0, 0);
        m.state(0, TeachingKernel.WAITING).run(80, 0);
        Machine k = new Machine("words stay while one end is held").put(Machine.PIPE, 1, 2).put(Machine.WRITE, 0, 2);
        k.put(Machine.CLOSE, 3, 1).put(Machine.YIELD).jump(3);
        k.spawn(0, 7, 0).run(2, 2).pipe(0, 1).descriptors(0, 0, 2, 0, 0).kill(0, 0, true).pipe(0, -1);
    }

    private static void endClosesAll() {
        Machine m = new Machine("end closes").put(Machine.PIPE, 1, 2).put(Machine.PIPE, 1, 2).put(Machine.FORK, 3);
        m.put(Machine.YIELD).jump(3);
        m.spawn(0, 7, 0).run(2, 2).descriptors(1, 1, 2, 3, 4).kill(0, 0, true).pipe(0, 0).pipe(1, 0);
        m.descriptors(1, 1, 2, 3, 4).descriptors(0, 0, 0, 0, 0).kill(1, 0, true).pipe(0, -1).pipe(1, -1);
    }

    /** One word wakes three readers; the first takes it, and the others wait again without executing. */
    private static void readersOfOneWord() {
        Machine m = new Machine("readers").put(Machine.PIPE, 1, 2).put(Machine.FORK, 3).put(Machine.FORK, 3);
        m.put(Machine.OWN_NUMBER, 0).put(Machine.JUMP_IF_ZERO, 0, 0, 10).put(Machine.READ, 3, 1).put(Machine.OUT, 0);
        m.put(Machine.OUT, 3).put(Machine.YIELD).jump(8).put(Machine.YIELD).put(Machine.YIELD).put(Machine.YIELD);
        m.put(Machine.YIELD).set(0, 500).put(Machine.WRITE, 0, 2).put(Machine.YIELD).jump(16);
        m.spawn(0, 0, 0).run(10, 10).pipe(0, 1).executed(19).parent(3, 1);
        m.state(1, TeachingKernel.WAITING).state(2, TeachingKernel.WAITING).state(3, TeachingKernel.WAITING);
        m.run(1, 1).pipe(0, 1).executed(21);
        m.state(1, TeachingKernel.READY).state(2, TeachingKernel.READY).state(3, TeachingKernel.READY);
        m.run(1, 1).pipe(0, 0).output(1, 500).state(2, TeachingKernel.READY).executed(24);
        m.run(1, 1).state(2, TeachingKernel.WAITING).spot(2, 5).state(3, TeachingKernel.READY).executed(24);
        m.run(1, 1).state(3, TeachingKernel.WAITING).executed(24).output(1, 500);
    }
}
