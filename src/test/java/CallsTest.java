/** Promises 2, 3, 5 to 11 and 13 to 16: ordinary and wrong arguments of the calls. */
public final class CallsTest {
    private static final int[] EXTREMES = {Integer.MIN_VALUE, Integer.MIN_VALUE + 1, -1000, -1, Integer.MAX_VALUE};

    public static void main(String[] args) {
        codeRefusesAndKeeps();
        codeReachesBothEdges();
        codeTakesApartWhat();
        codeChangesWhatRunningProcessesMeet();
        spawnFillsUpAndClears();
        spawnTakesAnySpotAndX();
        lookingAtAProcess();
        lookingAtAnEndedProcess();
        lookingOutside();
        outputHasMoreThanIsShown();
        killFromOutside();
        levelsShowNowhere();
        Checks.close();
    }

    private static void codeRefusesAndKeeps() {
        Machine m = new Machine("code refused").put(Machine.ADD_NUMBER, 0, 0, 5).put(Machine.OUT);
        TeachingKernel k = m.kernel;
        for (int i : new int[] {-1, 64, 65, Integer.MIN_VALUE, Integer.MAX_VALUE}) {
            Checks.due("code(" + i + ", 1, 1)", k.code(i, 1, 1), false);
        }
        for (int what : new int[] {-1, 512, 513, Integer.MIN_VALUE, Integer.MAX_VALUE, 512 + 24, -512}) {
            Checks.due("code(0, " + what + ", 1)", k.code(0, what, 1), false);
        }
        for (int what = 0; what < 512; what++) {
            if ((what & 31) > 24) {
                TeachingKernel other = new TeachingKernel();
                Checks.due("code(0, " + what + ", 1)", other.code(0, what, 1), false);
                Checks.due("spawn", other.spawn(0, 1), 0);
                Checks.due("run after code(0, " + what + ", 1)", other.run(3), 1);
                Checks.due("state after code(0, " + what + ", 1)", other.state(0), TeachingKernel.FREE);
            }
        }
        Checks.due("code(0, 25, 9)", k.code(0, 25, 9), false);
        Checks.due("code(1, 31, 9)", k.code(1, 31, 9), false);
        m.spawn(0, 2, 0).run(80, 1).output(7);
    }

    private static void codeReachesBothEdges() {
        Machine m = new Machine("code at the edges");
        Checks.due("code(63, 511 - 7, 3)", m.kernel.code(63, 511 - 7, 3), true);
        Checks.due("code(63, 0, 0)", m.kernel.code(63, 0, 0), true);
        m.at(0).put(Machine.OUT).jump(63).at(63).jump(0);
        m.spawn(0, 4, 0).run(2, 2).output(4, 4).executed(6);
    }

    private static void codeTakesApartWhat() {
        for (int a = 0; a < 4; a++) {
            for (int b = 0; b < 4; b++) {
                Machine m = new Machine("a " + a + " b " + b);
                m.set(1, 11).set(2, 12).set(3, 13).put(Machine.MOVE, a, b).put(Machine.YIELD);
                m.spawn(0, 10, 0).run(2, 2);
                for (int r = 0; r < 4; r++) {
                    m.register(0, r, r == a ? 10 + b : 10 + r);
                }
            }
        }
    }

    private static void codeChangesWhatRunningProcessesMeet() {
        Machine m = new Machine("code changed").jump(0).spawn(0, 3, 0).run(1, 1).spot(0, 0);
        m.at(0).put(Machine.OUT).put(Machine.END).run(5, 1).output(3);
        Machine w = new Machine("code changed below a waiting one").put(Machine.PIPE, 1, 2).put(Machine.READ, 3, 1);
        w.spawn(0, 3, 0).run(80, 1).state(0, TeachingKernel.WAITING).run(80, 0);
        w.at(1).put(Machine.OUT).state(0, TeachingKernel.WAITING);
        w.run(0, 0).state(0, TeachingKernel.WAITING).run(80, 1).output(3).state(0, TeachingKernel.FREE);
    }

    private static void spawnFillsUpAndClears() {
        Machine m = new Machine("spawn").put(Machine.PIPE, 1, 2).put(Machine.STORE, 0, 3, 0);
        m.put(Machine.STORE, 0, 3, 31).set(3, 8).put(Machine.YIELD).put(Machine.END);
        for (int p = 0; p < 6; p++) {
            m.spawn(0, 100 + p, p).state(p, TeachingKernel.READY).spot(p, 0).parent(p, -1);
            m.registers(p, 100 + p, 0, 0, 0);
        }
        m.spawn(0, 9, TeachingKernel.BAD);
        m.run(12, 12).word(1, 0, 101).word(1, 31, 101).register(1, 3, 8).descriptors(1, 3, 4, 0, 0);
        m.kill(1, 0, true).state(1, TeachingKernel.FREE);
        m.spawn(50, -5, 1).registers(1, -5, 0, 0, 0).word(1, 0, 0).word(1, 31, 0).descriptors(1, 0, 0, 0, 0);
        m.spot(1, 50).parent(1, -1).spawn(50, -5, TeachingKernel.BAD);
        m.kill(4, 0, true).kill(2, 0, true).spawn(1, 1, 2).spawn(1, 1, 4).spawn(1, 1, TeachingKernel.BAD);
    }

    private static void spawnTakesAnySpotAndX() {
        for (int far : EXTREMES) {
            Machine m = new Machine("spawn at " + far).spawn(far, far, 0);
            m.spot(0, far).register(0, 0, far).executed(0);
            m.run(80, 1).state(0, TeachingKernel.FREE).executed(1);
        }
    }

    private static void lookingAtAProcess() {
        Machine m = new Machine("looking").put(Machine.FORK, 3).put(Machine.WAIT, 0, 1).jump(0);
        m.spawn(0, 5, 0).run(1, 1);
        m.state(0, TeachingKernel.WAITING).spot(0, 1).parent(0, -1).registers(0, 5, 0, 0, 1);
        m.state(1, TeachingKernel.READY).spot(1, 1).parent(1, 0).registers(1, 5, 0, 0, -1);
        m.state(2, TeachingKernel.FREE).spot(2, TeachingKernel.BAD).parent(2, TeachingKernel.BAD);
    }

    private static void lookingAtAnEndedProcess() {
        Machine m = new Machine("ended").put(Machine.PIPE, 1, 2).put(Machine.STORE, 0, 1, 0).put(Machine.FORK, 3);
        m.put(Machine.ADD_NUMBER, 3, 0, 1).put(Machine.JUMP_IF_ZERO, 3, 0, 9);
        m.put(Machine.YIELD).jump(5).at(9).put(Machine.END);
        m.spawn(0, 77, 0).run(2, 2);
        m.state(1, TeachingKernel.ENDED).spot(1, 77).parent(1, 0);
        m.registers(1, 0, 0, 0, 0).descriptors(1, 0, 0, 0, 0).word(1, 0, 0);
        m.word(0, 0, 77).descriptors(0, 1, 2, 0, 0);
        m.kill(1, 5, false).spot(1, 77).spawn(5, 0, 2);
    }

    private static void lookingOutside() {
        Machine m = new Machine("outside").put(Machine.STORE, 0, 1, 0).put(Machine.STORE, 0, 1, 31);
        m.put(Machine.PIPE, 3, 2).put(Machine.PIPE, 3, 2).jump(4).spawn(0, 6, 0).spawn(4, 6, 1).run(4, 4);
        m.word(0, 0, 6).word(0, 31, 6).descriptors(0, 1, 2, 3, 4);
        for (int far : new int[] {-1, 6, 7, Integer.MIN_VALUE, Integer.MAX_VALUE, 1 << 29, 1 << 30}) {
            m.state(far, TeachingKernel.BAD).spot(far, TeachingKernel.BAD).parent(far, TeachingKernel.BAD);
            m.register(far, 0, 0).word(far, 0, 0).descriptor(far, 0, 0).kill(far, 1, false);
        }
        for (int far : new int[] {-1, 4, Integer.MIN_VALUE, Integer.MAX_VALUE}) {
            m.register(0, far, 0).descriptor(0, far, 0).register(1, far, 0).descriptor(1, far, 0);
        }
        for (int far : new int[] {-32, -1, 32, 33, Integer.MIN_VALUE, Integer.MAX_VALUE}) {
            m.word(0, far, 0).word(1, far, 0);
        }
        for (int far : new int[] {-1, 3, 4, Integer.MIN_VALUE, Integer.MAX_VALUE}) {
            m.pipe(far, TeachingKernel.BAD);
        }
        m.pipe(0, 0).pipe(1, 0).pipe(2, -1);
    }

    private static void outputHasMoreThanIsShown() {
        Machine m = new Machine("output").put(Machine.OUT).put(Machine.ADD_NUMBER, 0, 0, 1).jump(0);
        m.spawn(0, 1, 0).run(31, 31);
        Checks.due("printed() at 31", m.kernel.printed(), 31);
        Checks.due("output(30)", m.kernel.output(30), 31);
        Checks.due("output(31) too early", m.kernel.output(31), 0);
        m.run(9, 9);
        Checks.due("printed() at 40", m.kernel.printed(), 40);
        for (int k = 0; k < 32; k++) {
            Checks.due("output(" + k + ")", m.kernel.output(k), k + 1);
        }
        for (int k : new int[] {32, 33, 39, 40, -1, Integer.MIN_VALUE, Integer.MAX_VALUE}) {
            Checks.due("output(" + k + ")", m.kernel.output(k), 0);
        }
        for (int i = 0; i < 10; i++) {
            m.run(80, 80);
        }
        Checks.due("printed() at 840", m.kernel.printed(), 840);
        Checks.due("output(31)", m.kernel.output(31), 32);
    }

    private static void killFromOutside() {
        Machine m = new Machine("kill").put(Machine.FORK, 1).put(Machine.YIELD).jump(1);
        m.spawn(0, 1, 0).run(1, 1).kill(1, -77, true);
        m.state(1, TeachingKernel.ENDED).spot(1, -77).parent(1, 0).kill(1, -78, false).spot(1, -77).executed(2);
        m.kill(0, 3, true).state(0, TeachingKernel.FREE).state(1, TeachingKernel.FREE).executed(2);
        m.kill(0, 3, false).run(80, 0);
        Machine w = new Machine("kill a waiting one").put(Machine.PIPE, 1, 2).put(Machine.READ, 3, 1);
        w.spawn(0, 0, 0).run(1, 1).state(0, TeachingKernel.WAITING).pipe(0, 0);
        w.kill(0, 0, true).state(0, TeachingKernel.FREE).pipe(0, -1).run(80, 0).executed(1);
    }

    private static void levelsShowNowhere() {
        for (int k : new int[] {-1, 3, 4, Integer.MIN_VALUE, Integer.MAX_VALUE}) {
            Checks.due("level(" + k + ")", new TeachingKernel().level(k), false);
        }
        for (int k = -1; k < 4; k++) {
            Machine m = new Machine("level " + k).put(Machine.STORE, 0, 1, 3).put(Machine.FORK, 2);
            m.put(Machine.STORE, 2, 1, 4).put(Machine.YIELD).jump(3);
            m.spawn(0, 9, 0);
            Checks.due("level(" + k + ")", m.kernel.level(k), k >= 0 && k < 3);
            m.run(1, 1).word(0, 4, 1).word(1, 4, 0);
            Checks.due("level(" + (2 - k) + ")", m.kernel.level(2 - k), k >= 0 && k < 3);
            m.run(3, 3).word(0, 3, 9).word(1, 3, 9).word(0, 4, 1).word(1, 4, -1).executed(8).output();
        }
    }
}
