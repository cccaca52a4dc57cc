/** The queue, the turns and what counts, in ordinary runs (promises 4 and 12). */
public final class TurnsTest {
    public static void main(String[] args) {
        yieldEndsATurn();
        spawnedOnesStandBehindEachOther();
        wakingComesFirstAndTheSmallestFirst();
        wakingHappensOnlyInATurn();
        executedGoesOn();
        Checks.close();
    }

    private static void yieldEndsATurn() {
        Machine m = new Machine("yield").put(Machine.YIELD, 1, 2, 50).put(Machine.OUT).put(Machine.YIELD).put(Machine.END);
        m.spawn(0, 3, 0).spawn(0, 4, 1).run(1, 1).executed(1).spot(0, 1).state(0, TeachingKernel.READY).output();
        m.run(2, 2).executed(4).output(3).run(1, 1).output(3, 4).executed(6).run(80, 2).executed(8);
    }

    private static void spawnedOnesStandBehindEachOther() {
        Machine m = new Machine("order").put(Machine.OUT).put(Machine.OUT).jump(0);
        m.spawn(0, 10, 0).spawn(0, 11, 1).run(1, 1).spawn(0, 12, 2).run(4, 4);
        m.output(10, 10, 11, 11, 10, 10, 12, 12, 11, 11);
    }

    /** Processes 2 to 4 read from a pipe that 0 alone can write; as 0 is killed all of them wake at once. */
    private static void wakingComesFirstAndTheSmallestFirst() {
        Machine m = new Machine("waking").put(Machine.PIPE, 1, 2).put(Machine.FORK, 3).put(Machine.FORK, 3);
        m.put(Machine.OWN_NUMBER, 0).put(Machine.JUMP_IF_ZERO, 0, 0, 20).put(Machine.CLOSE, 3, 2);
        m.put(Machine.READ, 3, 1).put(Machine.OUT, 0).put(Machine.OUT, 3).put(Machine.END);
        m.at(20).put(Machine.YIELD).jump(20);
        m.spawn(0, 0, 0).spawn(20, 0, 1).run(20, 20);
        m.state(2, TeachingKernel.WAITING).state(3, TeachingKernel.WAITING).state(4, TeachingKernel.WAITING);
        m.kill(1, 0, true).kill(0, 0, true).state(2, TeachingKernel.WAITING).parent(2, -1);
        m.run(1, 1).output(2, -2).state(3, TeachingKernel.READY).state(4, TeachingKernel.READY);
        m.run(80, 5).output(2, -2, 3, -2, 4, -2);

        Machine b = new Machine("woken ones stand behind the queue").put(Machine.PIPE, 1, 2).put(Machine.READ, 3, 1);
        b.put(Machine.OUT, 0).put(Machine.END).at(20).put(Machine.OUT, 0).put(Machine.YIELD).jump(20);
        b.spawn(0, 100, 0).spawn(20, 101, 1).spawn(20, 102, 2).run(3, 3).output(101, 102);
        b.at(1).put(Machine.YIELD).run(4, 4).output(101, 102, 101, 102, 101).state(0, TeachingKernel.READY).spot(0, 2);
    }

    private static void wakingHappensOnlyInATurn() {
        Machine m = new Machine("only in a turn").put(Machine.FORK, 1).put(Machine.WAIT, 2, 3).put(Machine.OUT, 2);
        m.put(Machine.YIELD).jump(3);
        m.spawn(0, 0, 0).run(1, 1).state(0, TeachingKernel.WAITING).kill(1, 6, true);
        m.state(0, TeachingKernel.WAITING).run(0, 0).run(-1, 0).state(0, TeachingKernel.WAITING).spot(0, 1);
        m.run(1, 1).output(6).state(0, TeachingKernel.READY).state(1, TeachingKernel.FREE).executed(4);
    }

    private static void executedGoesOn() {
        Machine m = new Machine("executed").jump(0).spawn(0, 0, 0);
        for (int i = 1; i <= 200; i++) {
            m.run(80, 80);
        }
        m.executed(48000).kill(0, 0, true).executed(48000).spawn(1, 0, 0).run(1, 1).executed(48001);
    }
}
