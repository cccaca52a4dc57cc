/** Forks, waits, ends and kills (promises 3, 5 to 10, 12, 15 and 17). */
public final class FamilyTest {
    public static void main(String[] args) {
        forkCopiesAll();
        forkTakesTheSmallestFree();
        forkWithNobodyFree();
        bothGoOnBehindTheFork();
        waitWithoutChildren();
        waitTakesTheSmallestEnded();
        waitWithTheSameRegisterTwice();
        waitWaitsForItsOwnChildrenOnly();
        waitIsCountedWhenItIsExecuted();
        endFreesEndedChildrenAndLeavesTheOthers();
        killInstruction();
        killRefused();
        killInTheQueue();
        killTheParent();
        Checks.close();
    }

    private static void forkCopiesAll() {
        Machine m = new Machine("fork copies").put(Machine.PIPE, 1, 2).put(Machine.STORE, 0, 1, 30).put(Machine.WRITE, 0, 2);
        m.put(Machine.COPY, 3, 2).put(Machine.STORE, 2, 1, 0).put(Machine.FORK, 3).put(Machine.STORE, 3, 1, 1);
        m.put(Machine.CLOSE, 1, 1).put(Machine.YIELD).jump(8);
        m.spawn(0, 44, 0).run(2, 2).spot(0, 6).spot(1, 6).parent(1, 0).parent(0, -1);
        m.registers(0, 44, 0, 1, 1).registers(1, 44, 0, 1, -1);
        m.descriptors(0, 1, 2, 2, 0).descriptors(1, 1, 2, 2, 0).pipe(0, 1);
        for (int i = 0; i < 32; i++) {
            int want = i == 30 ? 44 : i == 0 ? 1 : 0;
            m.word(0, i, want).word(1, i, want);
        }
        m.run(1, 1).word(1, 1, -1).word(0, 1, 0).descriptors(1, 0, 2, 2, 0).descriptors(0, 1, 2, 2, 0);
        m.run(1, 1).word(1, 1, -1).word(0, 1, 1).descriptors(0, 0, 2, 2, 0).pipe(0, 1);
        m.executed(12);
    }

    private static void forkTakesTheSmallestFree() {
        Machine m = new Machine("smallest free").put(Machine.FORK, 1).put(Machine.YIELD).jump(1).at(10).jump(10);
        m.spawn(10, 0, 0).spawn(10, 0, 1).spawn(10, 0, 2).spawn(0, 0, 3);
        m.kill(1, 0, true).kill(0, 0, true).run(2, 2).register(3, 1, 0).state(0, TeachingKernel.READY).parent(0, 3);
        m.state(1, TeachingKernel.FREE);
    }

    private static void forkWithNobodyFree() {
        Machine m = new Machine("nobody free").put(Machine.FORK, 1).put(Machine.YIELD).at(10).jump(10);
        m.spawn(0, 0, 0);
        for (int p = 1; p < 6; p++) {
            m.spawn(10, 0, p);
        }
        m.run(1, 1).registers(0, 0, -2, 0, 0).spot(0, 2).executed(2);
        Machine e = new Machine("an ended one is not free").put(Machine.FORK, 1).put(Machine.FORK, 2).put(Machine.YIELD);
        e.at(10).jump(10).spawn(0, 0, 0);
        for (int p = 1; p < 5; p++) {
            e.spawn(10, 0, p);
        }
        e.run(1, 1).registers(0, 0, 5, -2, 0).kill(5, 0, true).state(5, TeachingKernel.ENDED);
        e.spawn(10, 0, TeachingKernel.BAD);
    }

    private static void bothGoOnBehindTheFork() {
        Machine m = new Machine("behind the fork").put(Machine.FORK, 0).put(Machine.OUT, 0).put(Machine.END, 0);
        m.spawn(0, 0, 0).run(1, 1).output(1).state(0, TeachingKernel.FREE).spot(1, 1).parent(1, -1);
        m.run(80, 1).output(1, -1).executed(5).state(1, TeachingKernel.FREE);
        Machine l = new Machine("fork at the last spot").at(63).put(Machine.FORK, 0);
        l.spawn(63, 0, 0).run(1, 1).state(0, TeachingKernel.FREE).spot(1, 64).run(80, 1).executed(3);
    }

    private static void waitWithoutChildren() {
        Machine m = new Machine("no children").put(Machine.WAIT, 1, 2).put(Machine.WAIT, 3, 3).put(Machine.YIELD);
        m.spawn(0, 5, 0).spawn(40, 0, 1).run(1, 1).registers(0, 5, -1, 0, -1).state(0, TeachingKernel.READY).executed(3);
    }

    /** A process 0 that forks three children, which yield on and on at 8, and goes on at 20. */
    private static Machine threeChildren(String name) {
        Machine m = new Machine(name);
        forkToYielders(m.at(0)).jump(4);
        forkToYielders(m.at(4)).jump(12);
        forkToYielders(m.at(12)).jump(20);
        return m.at(8).put(Machine.YIELD).jump(8).at(20);
    }

    private static Machine forkToYielders(Machine m) {
        return m.put(Machine.FORK, 1).put(Machine.ADD_NUMBER, 1, 0, 1).put(Machine.JUMP_IF_ZERO, 1, 0, 8);
    }

    private static void waitTakesTheSmallestEnded() {
        Machine m = threeChildren("smallest ended").put(Machine.WAIT, 1, 2).put(Machine.YIELD).jump(20);
        m.spawn(0, 0, 0).run(20, 20).state(0, TeachingKernel.WAITING).spot(0, 20);
        m.parent(1, 0).parent(2, 0).parent(3, 0).state(1, TeachingKernel.READY);
        m.kill(3, 33, true).kill(2, -22, true).state(0, TeachingKernel.WAITING);
        m.run(2, 2).registers(0, 0, -22, 2, 0).state(2, TeachingKernel.FREE).state(3, TeachingKernel.ENDED).spot(3, 33);
        m.parent(2, TeachingKernel.BAD).spot(2, TeachingKernel.BAD);
        m.run(2, 2).registers(0, 0, 33, 3, 0).state(3, TeachingKernel.FREE).state(0, TeachingKernel.READY);
        m.run(2, 2).state(0, TeachingKernel.WAITING).registers(0, 0, 33, 3, 0);
        m.kill(1, 11, true).run(1, 1).registers(0, 0, 11, 1, 0).run(1, 1).registers(0, 0, -1, 1, 0);
    }

    private static void waitWithTheSameRegisterTwice() {
        Machine m = threeChildren("same register").put(Machine.WAIT, 2, 2).put(Machine.YIELD).jump(21);
        m.spawn(0, 0, 0).run(20, 20).kill(2, 99, true).run(3, 3).registers(0, 0, 4, 2, 0);
    }

    private static void waitWaitsForItsOwnChildrenOnly() {
        Machine m = new Machine("own children").put(Machine.FORK, 1).put(Machine.ADD_NUMBER, 1, 0, 1);
        m.put(Machine.JUMP_IF_ZERO, 1, 0, 5).put(Machine.WAIT, 2, 3).put(Machine.END, 2);
        m.put(Machine.FORK, 1).put(Machine.YIELD).jump(6);
        m.spawn(0, 0, 0).run(6, 6).parent(1, 0).parent(2, 1).state(0, TeachingKernel.WAITING);
        m.kill(2, 7, true).state(2, TeachingKernel.ENDED).run(1, 1).state(0, TeachingKernel.WAITING);
        m.kill(1, 8, true).state(1, TeachingKernel.ENDED).state(2, TeachingKernel.FREE);
        m.run(80, 1).state(0, TeachingKernel.FREE).state(1, TeachingKernel.FREE);
    }

    private static void waitIsCountedWhenItIsExecuted() {
        Machine m = new Machine("counted").put(Machine.FORK, 1).put(Machine.ADD_NUMBER, 1, 0, 1).put(Machine.WAIT, 2, 3);
        m.put(Machine.OUT, 2).put(Machine.OUT, 3).put(Machine.END, 2);
        m.spawn(0, 6, 0).run(1, 1).executed(2).state(0, TeachingKernel.WAITING).spot(0, 2);
        m.run(1, 1).executed(5).state(0, TeachingKernel.WAITING).spot(1, 4);
        m.run(1, 1).executed(7).state(1, TeachingKernel.ENDED).spot(1, -1).state(0, TeachingKernel.WAITING);
        m.run(1, 1).executed(10).state(0, TeachingKernel.READY).state(1, TeachingKernel.FREE);
        m.run(80, 1).executed(11).output(-1, 0, -1, 1);
    }

    private static void endFreesEndedChildrenAndLeavesTheOthers() {
        Machine m = threeChildren("orphans").put(Machine.YIELD).jump(20);
        m.spawn(0, 0, 0).run(20, 20).kill(2, 5, true).state(2, TeachingKernel.ENDED);
        m.kill(0, 1, true).state(0, TeachingKernel.FREE).state(2, TeachingKernel.FREE);
        m.state(1, TeachingKernel.READY).parent(1, -1).state(3, TeachingKernel.READY).parent(3, -1);
        m.kill(1, 5, true).state(1, TeachingKernel.FREE).run(3, 3).state(3, TeachingKernel.READY);
        m.spawn(8, 0, 0).parent(3, -1);
    }

    private static void killInstruction() {
        Machine m = threeChildren("kill").set(2, 2).put(Machine.KILL, 1, 2).put(Machine.YIELD);
        m.set(2, 4).put(Machine.KILL, 2, 2).put(Machine.YIELD).jump(25);
        m.spawn(0, 0, 0).spawn(60, 0, 1).at(60).jump(60).run(40, 40);
        m.state(1, TeachingKernel.READY).state(2, TeachingKernel.ENDED).spot(2, -3).parent(2, 0);
        m.state(4, TeachingKernel.ENDED).spot(4, -3).registers(0, 0, 0, 0, 0).state(3, TeachingKernel.READY);
        Machine k = new Machine("killing one without a parent").set(1, 1).put(Machine.KILL, 2, 1).put(Machine.YIELD);
        k.spawn(0, 0, 0).spawn(0, 0, 1).run(1, 1).state(1, TeachingKernel.FREE).registers(0, 0, 1, 0, 0).executed(3);
        k.run(1, 1).state(0, TeachingKernel.FREE).executed(4).run(80, 0);
    }

    private static void killRefused() {
        for (int rb : new int[] {-1, 6, 100, Integer.MIN_VALUE, Integer.MAX_VALUE, 0, 2, 5}) {
            Machine m = new Machine("kill of " + rb).put(Machine.KILL, 1, 0).put(Machine.YIELD).at(9).jump(9);
            m.spawn(0, rb, 0).spawn(9, 0, 1).run(1, 1).registers(0, rb, -1, 0, 0).state(0, TeachingKernel.READY);
            m.state(1, TeachingKernel.READY).executed(2);
        }
        Machine e = threeChildren("kill of an ended one").set(2, 2).put(Machine.KILL, 1, 2).put(Machine.KILL, 2, 2);
        e.put(Machine.YIELD).jump(23).spawn(0, 0, 0).run(40, 40).registers(0, 0, 0, -1, 0).spot(2, -3);
    }

    private static void killInTheQueue() {
        Machine m = new Machine("kill in the queue").put(Machine.OWN_NUMBER, 1).put(Machine.OUT, 1).put(Machine.YIELD).jump(0);
        m.at(9).put(Machine.SET, 1, 0, 2).put(Machine.KILL, 2, 1).put(Machine.YIELD).jump(0);
        m.spawn(0, 0, 0).spawn(9, 0, 1).spawn(0, 0, 2).spawn(0, 0, 3);
        m.run(3, 3).output(0, 3).state(2, TeachingKernel.FREE).spawn(0, 0, 2);
        m.run(5, 5).output(0, 3, 0, 1, 3, 2);
        Machine o = new Machine("kill in the queue from outside").put(Machine.OWN_NUMBER, 1).put(Machine.OUT, 1);
        o.put(Machine.YIELD).jump(0).spawn(0, 0, 0).spawn(0, 0, 1).spawn(0, 0, 2);
        o.kill(0, 0, true).spawn(0, 0, 0).run(4, 4).output(1, 2, 0, 1).kill(2, 0, true).run(2, 2).output(1, 2, 0, 1, 0);
    }

    private static void killTheParent() {
        Machine m = new Machine("kill the parent").put(Machine.FORK, 1).put(Machine.ADD_NUMBER, 1, 0, 1);
        m.put(Machine.JUMP_IF_ZERO, 1, 0, 5).put(Machine.WAIT, 2, 3).put(Machine.END);
        m.put(Machine.PARENT_NUMBER, 2).put(Machine.KILL, 3, 2).put(Machine.PARENT_NUMBER, 2).put(Machine.YIELD);
        m.spawn(0, 0, 0).run(3, 3).state(0, TeachingKernel.WAITING).parent(1, 0);
        m.run(1, 1).state(0, TeachingKernel.FREE).registers(1, 0, 0, -1, 0).parent(1, -1);
        m.run(80, 1).state(1, TeachingKernel.FREE).executed(10);
    }
}
