/** Promises 2, 3, 5 to 8, 12 and 15: ordinary calls. */
public final class CallsTest {
    public static void main(String[] args) {
        codeTakesApartWhat();
        codeChangesWhatRunningProcessesMeet();
        lookingAtAProcess();
        killFromOutside();
        Checks.close();
    }

    private static void codeTakesApartWhat() {
        for (int a = 0; a < 4; a++) {
            for (int b = 0; b < 4; b++) {
                Machine m = new Machine("a " + a + " b " + b);
                m.set(1, 11).set(2, 12).set(3, 13).put(Machine.MOVE, a, b).put(Machine.YIELD);
                m.spawn(0, 10, 0).run(2, 2);
                for (int r = 0; r < 4; r++) {
                    m.register(0, r, r == a ? 10 + b : 10 + r);
                }
            }
        }
    }

    private static void codeChangesWhatRunningProcessesMeet() {
        Machine m = new Machine("code changed").jump(0).spawn(0, 3, 0).run(1, 1).spot(0, 0);
        m.at(0).put(Machine.OUT).put(Machine.END).run(5, 1).output(3);
        Machine w = new Machine("code changed below a waiting one").put(Machine.PIPE, 1, 2).put(Machine.READ, 3, 1);
        w.spawn(0, 3, 0).run(80, 1).state(0, TeachingKernel.WAITING).run(80, 0);
        w.at(1).put(Machine.OUT).state(0, TeachingKernel.WAITING);
        w.run(0, 0).state(0, TeachingKernel.WAITING).run(80, 1).output(3).state(0, TeachingKernel.FREE);
    }

    private static void lookingAtAProcess() {
        Machine m = new Machine("looking").put(Machine.FORK, 3).put(Machine.WAIT, 0, 1).jump(0);
        m.spawn(0, 5, 0).run(1, 1);
        m.state(0, TeachingKernel.WAITING).spot(0, 1).parent(0, -1).registers(0, 5, 0, 0, 1);
        m.state(1, TeachingKernel.READY).spot(1, 1).parent(1, 0).registers(1, 5, 0, 0, -1);
        m.state(2, TeachingKernel.FREE).spot(2, TeachingKernel.BAD).parent(2, TeachingKernel.BAD);
    }

    private static void killFromOutside() {
        Machine m = new Machine("kill").put(Machine.FORK, 1).put(Machine.YIELD).jump(1);
        m.spawn(0, 1, 0).run(1, 1).kill(1, -77, true);
        m.state(1, TeachingKernel.ENDED).spot(1, -77).parent(1, 0).kill(1, -78, false).spot(1, -77).executed(2);
        m.kill(0, 3, true).state(0, TeachingKernel.FREE).state(1, TeachingKernel.FREE).executed(2);
        m.kill(0, 3, false).run(80, 0);
        Machine w = new Machine("kill a waiting one").put(Machine.PIPE, 1, 2).put(Machine.READ, 3, 1);
        w.spawn(0, 0, 0).run(1, 1).state(0, TeachingKernel.WAITING).pipe(0, 0);
        w.kill(0, 0, true).state(0, TeachingKernel.FREE).pipe(0, -1).run(80, 0).executed(1);
    }
}
