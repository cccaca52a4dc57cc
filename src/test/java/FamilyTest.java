/** Forks, waits, ends and kills in ordinary runs (promises 5 to 10, 12 and 15 to 17). */
public final class FamilyTest {
    public static void main(String[] args) {
        forkCopiesAll();
        everyCopyHasItsOwnMemory();
        forkTakesTheSmallestFree();
        waitWaitsForItsOwnChildrenOnly();
        waitIsCountedWhenItIsExecuted();
        killInstruction();
        killInTheQueue();
        killTheParent();
        Checks.close();
    }

    private static void forkCopiesAll() {
        Machine m = new Machine("fork copies").put(Machine.PIPE, 1, 2).put(Machine.STORE, 0, 1, 30).put(Machine.WRITE, 0, 2);
        m.put(Machine.COPY, 3, 2).put(Machine.STORE, 2, 1, 0).put(Machine.FORK, 3).put(Machine.STORE, 3, 1, 1);
        m.put(Machine.CLOSE, 1, 1).put(Machine.YIELD).jump(8);
        m.spawn(0, 44, 0).run(2, 2).spot(0, 6).spot(1, 6).parent(1, 0).parent(0, -1);
        m.registers(0, 44, 0, 1, 1).registers(1, 44, 0, 1, -1);
        m.descriptors(0, 1, 2, 2, 0).descriptors(1, 1, 2, 2, 0).pipe(0, 1);
        for (int i = 0; i < 32; i++) {
            int want = i == 30 ? 44 : i == 0 ? 1 : 0;
            m.word(0, i, want).word(1, i, want);
        }
        m.run(1, 1).word(1, 1, -1).word(0, 1, 0).descriptors(1, 0, 2, 2, 0).descriptors(0, 1, 2, 2, 0);
        m.run(1, 1).word(1, 1, -1).word(0, 1, 1).descriptors(0, 0, 2, 2, 0).pipe(0, 1);
        m.executed(12);
    }

    /** Four processes of three generations store words of their own, while the level changes between the turns. */
    private static void everyCopyHasItsOwnMemory() {
        int[][] levels = {{0}, {1}, {2}, {0, 1}, {0, 2}, {1, 2}, {2, 1, 0}};
        for (int[] order : levels) {
            Machine m = new Machine("own memory, levels from " + order[0]).put(Machine.STORE, 0, 3, 0).put(Machine.FORK, 1);
            m.put(Machine.FORK, 1).put(Machine.OWN_NUMBER, 2).put(Machine.ADD_NUMBER, 2, 0, 1).put(Machine.STORE, 2, 2, 8);
            m.put(Machine.STORE, 2, 3, 31).put(Machine.YIELD).jump(7).spawn(0, 70, 0);
            for (int turn = 0; turn < 20; turn++) {
                m.level(order[turn % order.length], true).run(1, 1);
            }
            m.parent(1, 0).parent(2, 0).parent(3, 1);
            for (int p = 0; p < 4; p++) {
                for (int i = 0; i < 32; i++) {
                    m.word(p, i, i == 0 ? 70 : i == p + 9 || i == 31 ? p + 1 : 0);
                }
            }
            m.kill(1, 0, true).kill(0, 0, true).spawn(7, 0, 0).word(0, 0, 0).word(0, 9, 0).word(0, 31, 0);
            m.level(order[0], true).word(2, 0, 70).word(2, 11, 3).word(2, 31, 3).word(3, 0, 70).word(3, 12, 4).word(3, 31, 4);
        }
    }

    private static void forkTakesTheSmallestFree() {
        Machine m = new Machine("smallest free").put(Machine.FORK, 1).put(Machine.YIELD).jump(1).at(10).jump(10);
        m.spawn(10, 0, 0).spawn(10, 0, 1).spawn(10, 0, 2).spawn(0, 0, 3);
        m.kill(1, 0, true).kill(0, 0, true).run(2, 2).register(3, 1, 0).state(0, TeachingKernel.READY).parent(0, 3);
        m.state(1, TeachingKernel.FREE);
    }

    private static void waitWaitsForItsOwnChildrenOnly() {
        Machine m = new Machine("own children").put(Machine.FORK, 1).put(Machine.ADD_NUMBER, 1, 0, 1);
        m.put(Machine.JUMP_IF_ZERO, 1, 0, 5).put(Machine.WAIT, 2, 3).put(Machine.END, 2);
        m.put(Machine.FORK, 1).put(Machine.YIELD).jump(6);
        m.spawn(0, 0, 0).run(6, 6).parent(1, 0).parent(2, 1).state(0, TeachingKernel.WAITING);
        m.kill(2, 7, true).state(2, TeachingKernel.ENDED).run(1, 1).state(0, TeachingKernel.WAITING);
        m.kill(1, 8, true).state(1, TeachingKernel.ENDED).state(2, TeachingKernel.FREE);
        m.run(80, 1).state(0, TeachingKernel.FREE).state(1, TeachingKernel.FREE);
    }

    private static void waitIsCountedWhenItIsExecuted() {
        Machine m = new Machine("counted").put(Machine.FORK, 1).put(Machine.ADD_NUMBER, 1, 0, 1).put(Machine.WAIT, 2, 3);
        m.put(Machine.OUT, 2).put(Machine.OUT, 3).put(Machine.END, 2);
        m.spawn(0, 6, 0).run(1, 1).executed(2).state(0, TeachingKernel.WAITING).spot(0, 2);
        m.run(1, 1).executed(5).state(0, TeachingKernel.WAITING).spot(1, 4);
        m.run(1, 1).executed(7).state(1, TeachingKernel.ENDED).spot(1, -1).state(0, TeachingKernel.WAITING);
        m.run(1, 1).executed(10).state(0, TeachingKernel.READY).state(1, TeachingKernel.FREE);
        m.run(80, 1).executed(11).output(-1, 0, -1, 1);
    }

    private static void killInstruction() {
        Machine m = Machine.withChildren("kill").set(2, 2).put(Machine.KILL, 1, 2).put(Machine.YIELD);
        m.set(2, 4).put(Machine.KILL, 2, 2).put(Machine.YIELD).jump(25);
        m.spawn(0, 3, 0).spawn(60, 0, 1).run(70, 70);
        m.state(1, TeachingKernel.READY).state(2, TeachingKernel.ENDED).spot(2, -3).parent(2, 0);
        m.state(4, TeachingKernel.ENDED).spot(4, -3).registers(0, 0, 0, 0, 0).state(3, TeachingKernel.READY);
        Machine k = new Machine("killing one without a parent").set(1, 1).put(Machine.KILL, 2, 1).put(Machine.YIELD);
        k.spawn(0, 0, 0).spawn(0, 0, 1).run(1, 1).state(1, TeachingKernel.FREE).registers(0, 0, 1, 0, 0).executed(3);
        k.run(1, 1).state(0, TeachingKernel.FREE).executed(4).run(80, 0);
    }

    private static void killInTheQueue() {
        Machine m = new Machine("kill in the queue").put(Machine.OWN_NUMBER, 1).put(Machine.OUT, 1).put(Machine.YIELD).jump(0);
        m.at(9).put(Machine.SET, 1, 0, 2).put(Machine.KILL, 2, 1).put(Machine.YIELD).jump(0);
        m.spawn(0, 0, 0).spawn(9, 0, 1).spawn(0, 0, 2).spawn(0, 0, 3);
        m.run(3, 3).output(0, 3).state(2, TeachingKernel.FREE).spawn(0, 0, 2);
        m.run(5, 5).output(0, 3, 0, 1, 3, 2);
        Machine o = new Machine("kill in the queue from outside").put(Machine.OWN_NUMBER, 1).put(Machine.OUT, 1);
        o.put(Machine.YIELD).jump(0).spawn(0, 0, 0).spawn(0, 0, 1).spawn(0, 0, 2);
        o.kill(0, 0, true).spawn(0, 0, 0).run(4, 4).output(1, 2, 0, 1).kill(2, 0, true).run(2, 2).output(1, 2, 0, 1, 0);
    }

    private static void killTheParent() {
        Machine m = new Machine("kill the parent").put(Machine.FORK, 1).put(Machine.ADD_NUMBER, 1, 0, 1);
        m.put(Machine.JUMP_IF_ZERO, 1, 0, 5).put(Machine.WAIT, 2, 3).put(Machine.END);
        m.put(Machine.PARENT_NUMBER, 2).put(Machine.KILL, 3, 2).put(Machine.PARENT_NUMBER, 2).put(Machine.YIELD);
        m.spawn(0, 0, 0).run(3, 3).state(0, TeachingKernel.WAITING).parent(1, 0);
        m.run(1, 1).state(0, TeachingKernel.FREE).registers(1, 0, 0, -1, 0).parent(1, -1);
        m.run(80, 1).state(1, TeachingKernel.FREE).executed(10);
    }
}
