/** The sentences of the Terms on FORK, WAIT, KILL, ends, the queue and turns that name an edge, each with a test of its own. */
public final class ProcessEdgesTest {
    private static final int MIN = Integer.MIN_VALUE;
    private static final int MAX = Integer.MAX_VALUE;

    public static void main(String[] args) {
        forkOfTheLastFreeOne();
        forkWithNobodyFree();
        forkWithAnEndedOneOnly();
        waitWithoutChildren();
        waitWithoutChildrenLeft();
        waitWithGrandchildrenOnly();
        waitWithLivingChildrenOnly();
        waitWithTheSameRegister();
        waitForTheSmallestEnded();
        waitForTheFirstProcess();
        noParent();
        killOutside();
        killItself();
        killAFreeOne();
        killAnEndedOne();
        killTheFirstAndTheLast();
        endWithDescriptors();
        endWithChildren();
        endWithAndWithoutAParent();
        turnWithAnEmptyQueue();
        turnOfThreeInstructions();
        turnThatWaitsAtOnce();
        turnOfAYield();
        wokenTheSmallestFirst();
        killedInTheQueue();
        forkedBehindTheQueue();
        Checks.close();
    }

    /** A machine with processes that turn round at 60 as the numbers from first to last. */
    private static Machine busy(Machine m, int first, int last) {
        m.at(60).put(Machine.YIELD).jump(60);
        for (int p = first; p <= last; p++) {
            m.spawn(60, 0, p);
        }
        return m;
    }

    /** "13 FORK: the smallest free process": there is one left. */
    private static void forkOfTheLastFreeOne() {
        Machine m = new Machine("13: one is free").put(Machine.FORK, 1).put(Machine.FORK, 2).put(Machine.YIELD);
        busy(m.spawn(0, 8, 0), 1, 4).free(5);
        m.run(1, 1).registers(0, 8, 5, -2, 0).ready(5, 1).parent(5, 0).registers(5, 8, -1, 0, 0).executed(3);
    }

    /** "13: if none is free ra = -2" */
    private static void forkWithNobodyFree() {
        Machine m = new Machine("13: none is free").put(Machine.FORK, 1).put(Machine.YIELD).put(Machine.FORK, 1);
        busy(m.put(Machine.YIELD).jump(3).spawn(0, 8, 0), 1, 5);
        m.run(1, 1).registers(0, 8, -2, 0, 0).ready(0, 2).executed(2);
        for (int p = 1; p < 6; p++) {
            m.ready(p, 60).parent(p, -1).registers(p, 0, 0, 0, 0);
        }
        m.kill(3, 0, true).run(5, 5).executed(8).registers(0, 8, 3, 0, 0).ready(3, 3).parent(3, 0);
    }

    /** "13: if none is free": an ended one is not free, until it has been waited for. */
    private static void forkWithAnEndedOneOnly() {
        Machine m = new Machine("13: an ended one").put(Machine.FORK, 1).put(Machine.YIELD).put(Machine.FORK, 2);
        m.put(Machine.WAIT, 1, 3).put(Machine.FORK, 2).put(Machine.YIELD).jump(5);
        busy(m.spawn(0, 8, 0), 1, 4).run(1, 1).register(0, 1, 5).kill(5, -9, true).ended(5, -9);
        m.run(5, 5).registers(0, 8, -9, 5, 5).ready(5, 5).parent(5, 0).registers(5, 8, -9, -1, 5);
    }

    /** "14 WAIT: if it has no children ra = -1" */
    private static void waitWithoutChildren() {
        Machine m = new Machine("14: no children").set(2, 7).put(Machine.WAIT, 1, 2).put(Machine.YIELD);
        m.spawn(0, 5, 0).run(1, 1).registers(0, 5, -1, 7, 0).ready(0, 3).executed(3);
        Machine o = Machine.withChild("14: no children, but a brother's").put(Machine.END).at(40).put(Machine.WAIT, 1, 2);
        o.put(Machine.YIELD).spawn(0, 5, 0).run(3, 3).ended(1, 5).spawn(40, 5, 2).run(2, 2);
        o.registers(2, 5, -1, 0, 0).ready(2, 42).ended(1, 5);
    }

    /** "14: if it has no children ra = -1": the only one has been waited for. */
    private static void waitWithoutChildrenLeft() {
        Machine m = new Machine("14: no children left").put(Machine.FORK, 1).put(Machine.WAIT, 2, 3).put(Machine.WAIT, 0, 1);
        m.put(Machine.YIELD).spawn(0, 5, 0).run(1, 1).waiting(0, 1).kill(1, 6, true);
        m.run(1, 1).registers(0, -1, 1, 6, 1).ready(0, 4).free(1).executed(4);
    }

    /** "14: if it has no children": its child has ended, been waited for, and left a child that is not its own. */
    private static void waitWithGrandchildrenOnly() {
        Machine m = Machine.withChild("14: grandchildren").put(Machine.FORK, 1).put(Machine.YIELD).jump(21);
        m.spawn(0, 5, 0).run(2, 2).parent(1, 0).parent(2, 1).kill(1, 6, true).ended(1, 6).parent(2, -1);
        m.at(3).put(Machine.WAIT, 1, 2).put(Machine.WAIT, 3, 3).put(Machine.YIELD).jump(5);
        m.run(2, 2).registers(0, 5, 6, 1, -1).free(1).state(2, TeachingKernel.READY);
    }

    /** "14: else it waits": at the WAIT, which is not executed. */
    private static void waitWithLivingChildrenOnly() {
        Machine m = Machine.withChildren("14: it waits").put(Machine.WAIT, 2, 3).put(Machine.YIELD).jump(21);
        m.spawn(0, 2, 0).run(40, 40).waiting(0, 20).registers(0, 0, 3, 0, 0);
        long before = m.kernel.executed();
        m.run(2, 2).waiting(0, 20).registers(0, 0, 3, 0, 0).executed(before + 4);
        m.kill(2, 7, true).waiting(0, 20).run(2, 2).ready(0, 22).registers(0, 0, 3, 7, 2).executed(before + 8);
    }

    /** "14: first ra, then rb": in one register the number stays. */
    private static void waitWithTheSameRegister() {
        Machine m = new Machine("14: ra is rb").put(Machine.FORK, 1).put(Machine.WAIT, 2, 2).put(Machine.YIELD);
        m.spawn(0, 5, 0).run(1, 1).kill(1, 77, true).run(1, 1).registers(0, 5, 1, 1, 0);
        Machine n = new Machine("14: ra is rb, no children").put(Machine.WAIT, 2, 2).put(Machine.YIELD);
        n.spawn(0, 5, 0).run(1, 1).registers(0, 5, 0, -1, 0);
    }

    /** "14: of the smallest one ra = the result, rb = the number, and that one is free then" */
    private static void waitForTheSmallestEnded() {
        Machine m = Machine.withChildren("14: the smallest one").put(Machine.WAIT, 2, 3).put(Machine.YIELD).jump(20);
        m.spawn(0, 5, 0).run(70, 70).waiting(0, 20).parent(1, 0).parent(5, 0);
        m.kill(5, MAX, true).kill(2, MIN, true).kill(4, -1, true);
        m.run(3, 3).registers(0, 0, 6, MIN, 2).free(2).ended(4, -1).ended(5, MAX);
        m.run(3, 3).registers(0, 0, 6, -1, 4).free(4).ended(5, MAX);
        m.run(3, 3).registers(0, 0, 6, MAX, 5).free(5).run(3, 3).waiting(0, 20).registers(0, 0, 6, MAX, 5);
    }

    /** "14 WAIT: if it has ended children ... if it has no children ... else it waits": process 0 is the child. */
    private static void waitForTheFirstProcess() {
        Machine m = new Machine("14: process 0").put(Machine.FORK, 1).put(Machine.ADD_NUMBER, 1, 0, 1);
        m.put(Machine.JUMP_IF_ZERO, 1, 0, 60).put(Machine.WAIT, 2, 3).put(Machine.YIELD).jump(4).set(3, 9).jump(0);
        busy(m, 0, 0).spawn(6, 5, 1).kill(0, 0, true).run(4, 4).parent(0, 1).waiting(1, 3).registers(1, 5, 1, 0, 9);
        m.kill(0, 7, true).ended(0, 7).run(1, 1).registers(1, 5, 1, 7, 0).free(0).ready(1, 5);
    }

    /** "23 ra = its parent's number, -1 if none" */
    private static void noParent() {
        Machine m = new Machine("23: none").set(1, 9).put(Machine.PARENT_NUMBER, 1).put(Machine.YIELD);
        m.spawn(0, 5, 0).run(1, 1).registers(0, 5, -1, 0, 0);
        Machine o = Machine.withChild("23: no longer").put(Machine.YIELD).put(Machine.PARENT_NUMBER, 1).put(Machine.YIELD);
        o.put(Machine.PARENT_NUMBER, 2).put(Machine.YIELD).spawn(0, 5, 0).run(4, 4).register(1, 1, 0).kill(0, 0, true);
        o.spawn(3, 0, 0).parent(1, -1).run(1, 1).registers(1, 5, 0, -1, 0).parent(1, -1);
    }

    /** Processes 0 and 1 are busy; 2 has 9 in r1 and, in its first turn, executes a KILL of rb into it. */
    private static Machine kills(String name, int rb) {
        Machine m = new Machine("24: " + name + " " + rb).set(1, 9).put(Machine.KILL, 1, 0).put(Machine.YIELD).jump(2);
        return busy(m, 0, 1).spawn(0, rb, 2);
    }

    /** "24: if rb is not from 0 to 5: ra = -1" */
    private static void killOutside() {
        for (int rb : new int[] {-1, 6, 7, -6, 64, MIN, MAX, 1 << 30}) {
            Machine m = kills("not from 0 to 5", rb).run(3, 3).registers(2, rb, -1, 0, 0).ready(2, 3).executed(5);
            m.ready(0, 61).ready(1, 61).free(3).free(4).free(5);
        }
    }

    /** "24: or itself: ra = -1" */
    private static void killItself() {
        kills("itself", 2).run(3, 3).registers(2, 2, -1, 0, 0).ready(2, 3).executed(5);
        Machine m = new Machine("24: itself, found out").put(Machine.OWN_NUMBER, 3).put(Machine.KILL, 3, 3).put(Machine.YIELD);
        m.spawn(0, 5, 0).run(1, 1).registers(0, 5, 0, 0, -1).ready(0, 3);
    }

    /** "24: or free: ra = -1" */
    private static void killAFreeOne() {
        for (int rb = 3; rb < 6; rb++) {
            kills("free", rb).run(3, 3).registers(2, rb, -1, 0, 0).ready(2, 3).free(rb).executed(5);
        }
        Machine m = kills("free again", 1).kill(1, 4, true).run(2, 2).registers(2, 1, -1, 0, 0).free(1).executed(4);
        m.ready(0, 61);
    }

    /** "24: or ended: ra = -1", and the result stays. */
    private static void killAnEndedOne() {
        Machine m = Machine.withChild("24: ended").at(40).put(Machine.KILL, 1, 0).put(Machine.YIELD).jump(41);
        m.spawn(0, 5, 0).run(1, 1).kill(1, 44, true).ended(1, 44).spawn(40, 1, 2).run(2, 2);
        m.registers(2, 1, -1, 0, 0).ready(2, 42).ended(1, 44).parent(1, 0);
    }

    /** "24 KILL: process rb ends with the result -3, ra = 0": 0 and 5 can be killed, one that waits too. */
    private static void killTheFirstAndTheLast() {
        kills("the first one,", 0).run(3, 3).registers(2, 0, 0, 0, 0).free(0).ready(1, 61).executed(5);
        Machine m = new Machine("24: the last one").put(Machine.FORK, 1).put(Machine.KILL, 2, 1).put(Machine.YIELD);
        busy(m.spawn(0, 8, 0), 1, 4).run(1, 1).registers(0, 8, 5, 0, 0).ended(5, -3).parent(5, 0).executed(3);
        m.run(4, 4).run(1, 1).free(0).free(5);
        Machine w = Machine.withChild("24: one that waits").put(Machine.FORK, 1).put(Machine.ADD_NUMBER, 1, 0, 1);
        w.put(Machine.JUMP_IF_ZERO, 1, 0, 60).put(Machine.WAIT, 2, 2).put(Machine.END);
        w.at(40).put(Machine.KILL, 1, 0).put(Machine.YIELD).jump(41).at(60).put(Machine.YIELD).jump(60);
        w.spawn(0, 5, 0).run(5, 5).waiting(1, 23).parent(2, 1).spawn(40, 1, 3).run(3, 3);
        w.ended(1, -3).parent(1, 0).parent(2, -1).ready(3, 42).register(3, 1, 0);
    }

    /** "To END: its descriptors become nothing" */
    private static void endWithDescriptors() {
        Machine m = Machine.withChild("end: descriptors").put(Machine.PIPE, 1, 2).put(Machine.PIPE, 1, 2).put(Machine.END);
        m.spawn(0, 5, 0).run(2, 2).descriptors(1, 1, 2, 0, 0).pipe(0, 0).pipe(1, -1);
        m.run(2, 2).ended(1, 5).descriptors(1, 0, 0, 0, 0).pipe(0, -1).pipe(1, -1).pipe(2, -1);
    }

    /** "its children have no parent then, and those of them that are ended become free" */
    private static void endWithChildren() {
        Machine m = Machine.withChildren("end: children").put(Machine.YIELD).jump(20);
        m.spawn(0, 4, 0).run(60, 60).ready(0, 21).kill(2, 7, true).kill(4, 8, true).ended(2, 7).ended(4, 8);
        m.at(21).put(Machine.END).run(3, 3).free(0).free(2).free(4);
        m.state(1, TeachingKernel.READY).parent(1, -1).state(3, TeachingKernel.READY).parent(3, -1);
        m.kill(1, 1, true).free(1).run(5, 5).state(3, TeachingKernel.READY);
        Machine w = Machine.withChild("end: a child that waits").put(Machine.PIPE, 1, 2).put(Machine.READ, 3, 1);
        w.spawn(0, 5, 0).run(4, 4).waiting(1, 21).parent(1, 0).kill(0, 9, true).free(0).waiting(1, 21).parent(1, -1);
        Machine g = Machine.withChild("end: a grandchild").put(Machine.FORK, 1).put(Machine.YIELD).jump(21);
        g.spawn(0, 5, 0).run(4, 4).parent(2, 1).kill(2, 3, true).kill(0, 9, true).free(0);
        g.parent(1, -1).ended(2, 3).parent(2, 1).kill(1, 3, true).free(1).free(2);
    }

    /** "itself becomes ended, or free if it has no parent" */
    private static void endWithAndWithoutAParent() {
        Machine m = Machine.withChild("end: itself").put(Machine.YIELD).put(Machine.END);
        m.spawn(0, -1000, 0).run(4, 4).ended(1, -1000).parent(1, 0).kill(0, 6, true).free(0).free(1);
        Machine o = Machine.withChild("end: itself, left alone").put(Machine.YIELD).put(Machine.END);
        o.spawn(0, 5, 0).run(2, 2).kill(0, 6, true).parent(1, -1).run(80, 1).free(1).run(80, 0);
    }

    /** "If nobody is in the queue there is no turn." */
    private static void turnWithAnEmptyQueue() {
        new Machine("no turn: nobody").run(1, 0).run(80, 0).executed(0);
        new Machine("no turn: all have ended").spawn(0, 0, 0).run(1, 1).run(1, 0).run(80, 0).executed(1);
        Machine m = new Machine("no turn: all wait").put(Machine.PIPE, 1, 2).put(Machine.READ, 3, 1).put(Machine.END);
        m.spawn(0, 0, 0).spawn(0, 0, 1).spawn(0, 0, 2).run(80, 3).run(80, 0).run(1, 0).executed(3);
        m.waiting(0, 1).waiting(1, 1).waiting(2, 1);
        Machine w = new Machine("a turn: one that waits no more").put(Machine.FORK, 1).put(Machine.WAIT, 2, 3);
        w.put(Machine.END, 2).at(20).put(Machine.END).spawn(0, 0, 0).run(1, 1).kill(1, 5, true).waiting(0, 1);
        w.run(80, 1).free(0).free(1).executed(3).run(80, 0);
    }

    /** "or has executed 3 instructions (what ends it counts as one)" */
    private static void turnOfThreeInstructions() {
        for (int ends = 1; ends < 8; ends++) {
            Machine m = new Machine("three instructions: " + ends + " to the end");
            for (int i = 1; i < ends; i++) {
                m.put(Machine.OUT);
            }
            m.put(Machine.END).spawn(0, 4, 0).run(1, 1).printed(ends < 4 ? ends - 1 : 3).executed(ends < 4 ? ends : 3);
            m.run(80, (ends + 2) / 3 - 1).free(0).executed(ends).printed(ends - 1);
        }
    }

    /** "until it waits (that instruction is not executed then)": one turn without an instruction is a turn. */
    private static void turnThatWaitsAtOnce() {
        Machine m = new Machine("waits at once").put(Machine.PIPE, 1, 2).put(Machine.OUT).put(Machine.OUT);
        m.put(Machine.READ, 3, 1).put(Machine.END);
        m.spawn(0, 4, 0).run(1, 1).ready(0, 3).executed(3).run(1, 1).waiting(0, 3).executed(3).run(1, 0).executed(3);
    }

    /** "has executed a YIELD": as the first, the second or the third one of its turn. */
    private static void turnOfAYield() {
        for (int before = 0; before < 3; before++) {
            Machine m = new Machine("yield behind " + before);
            for (int i = 0; i < before; i++) {
                m.put(Machine.OUT);
            }
            m.put(Machine.YIELD).put(Machine.OUT).put(Machine.OUT).put(Machine.OUT).put(Machine.END);
            m.spawn(0, 4, 0).run(1, 1).ready(0, before + 1).executed(before + 1).printed(before);
            m.run(1, 1).ready(0, before + 4).printed(before + 3).run(80, 1).free(0).executed(before + 5);
        }
    }

    /** "first every waiting process, the smallest first, that would not wait at its instruction now, ... joins the queue" */
    private static void wokenTheSmallestFirst() {
        Machine m = new Machine("woken").put(Machine.FORK, 3).put(Machine.WAIT, 1, 2).put(Machine.OUT, 0).put(Machine.END);
        m.at(60).put(Machine.OUT, 0).put(Machine.YIELD).jump(60);
        m.at(40).put(Machine.PIPE, 1, 2).put(Machine.READ, 3, 1).put(Machine.OUT, 0).put(Machine.END);
        m.at(50).put(Machine.PIPE, 1, 2).put(Machine.READ, 3, 1).put(Machine.OUT, 0).put(Machine.END);
        m.spawn(60, 100, 0).spawn(40, 101, 1).spawn(50, 102, 2).spawn(40, 103, 3).run(4, 4);
        m.waiting(1, 41).waiting(2, 51).waiting(3, 41).output(100);
        m.at(41).put(Machine.SET, 3).run(1, 1).output(100, 100).ready(1, 41).waiting(2, 51).ready(3, 41);
        m.run(1, 1).output(100, 100, 101).run(1, 1).output(100, 100, 101, 103).waiting(2, 51);
        m.run(1, 1).output(100, 100, 101, 103, 100);
    }

    /** "A process that is killed while in the queue leaves it.": the first, a middle and the last one of the queue. */
    private static void killedInTheQueue() {
        int[][] left = {{11, 12, 13}, {10, 12, 13}, {10, 11, 13}, {10, 11, 12}};
        for (int p = 0; p < 4; p++) {
            Machine m = new Machine("killed in the queue: " + p).put(Machine.OUT).put(Machine.YIELD).jump(0);
            m.spawn(0, 10, 0).spawn(0, 11, 1).spawn(0, 12, 2).spawn(0, 13, 3).kill(p, 0, true).free(p);
            m.run(3, 3).output(left[p]).spawn(0, 14, p).run(3, 3).printed(6).run(1, 1).outputAt(6, 14);
        }
        Machine o = new Machine("killed in the queue: the only one").jump(0).spawn(0, 0, 0).kill(0, 0, true).run(80, 0);
        o.executed(0).spawn(0, 0, 0).run(2, 2).executed(6);
    }

    /** "A forked one joins the queue at its end when the fork is executed.": behind the others, before the one that forks. */
    private static void forkedBehindTheQueue() {
        Machine m = new Machine("forked").put(Machine.FORK, 1).put(Machine.YIELD).put(Machine.OWN_NUMBER, 2);
        m.put(Machine.OUT, 2).put(Machine.YIELD).jump(4).at(60).put(Machine.OUT).put(Machine.YIELD).jump(60);
        m.spawn(0, 0, 0).spawn(60, 101, 1).spawn(60, 102, 2).run(1, 1).ready(3, 1).ready(0, 2);
        m.run(3, 3).output(101, 102).ready(3, 2).run(1, 1).output(101, 102, 0).run(3, 3).output(101, 102, 0, 101, 102, 3);
    }
}
