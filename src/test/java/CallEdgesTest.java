/** The sentences of promises 1 to 17 that name an edge or a refused call, in their order, each with a test of its own. */
public final class CallEdgesTest {
    private static final int MIN = Integer.MIN_VALUE;
    private static final int MAX = Integer.MAX_VALUE;
    private static final int BAD = TeachingKernel.BAD;
    private static final int[] NO_PROCESS = {-1, 6, 7, -6, 64, MIN, MAX, 1 << 29, 1 << 30};

    public static void main(String[] args) {
        newCodeIsAllEnd();
        newCodeEndsWithARegister();
        codeAtNoSpot();
        codeAtTheFirstAndTheLastSpot();
        codeOfAWhatOutside();
        codeOfTheSmallestAndTheGreatestWhat();
        codeOfAnOpAbove24();
        codeOfAnyNumber();
        spawnOfTheLastFreeOne();
        spawnWithNobodyFree();
        spawnWithAnEndedOneOnly();
        spawnLeavesNothingOfTheOneBefore();
        runBelowZero();
        runAboveEighty();
        runAsLongAsThereAreTurns();
        stateOutside();
        stateOfTheFirstAndTheLast();
        spotOfNoProcess();
        spotOfAnEndedOne();
        parentOfNoProcess();
        parentOfOneWithout();
        parentOfAnEndedOne();
        registerOfNoProcess();
        registerOutside();
        registerOfAnEndedOne();
        wordOfNoProcess();
        wordOutside();
        wordOfAnEndedOne();
        descriptorOfNoProcess();
        descriptorOutside();
        descriptorOfAnEndedOne();
        descriptorOfTheLastPipe();
        pipeOutside();
        pipeThatIsNotThere();
        pipeFromEmptyToFull();
        executedCountsWhatEnds();
        executedCountsWhatFails();
        executedCountsNoKillFromOutside();
        printedAbove32();
        outputBeforeAnyAndBehindTheLast();
        outputAbove31();
        killOutside();
        killOfAFreeOne();
        killOfAnEndedOne();
        killWithAnyResult();
        levelOutside();
        levelShowsInNoAnswer();
        bothGoOnBehindTheFork();
        bothGoOnBehindAForkAtTheLastSpot();
        Checks.close();
    }

    /** "All processes are free", and the CODE is "at first all END": each spot of 64, with no code set. */
    private static void newCodeIsAllEnd() {
        Machine m = new Machine("new code");
        for (int spot = 0; spot < 64; spot++) {
            m.spawn(spot, 7, 0).run(2, 1).state(0, TeachingKernel.FREE).executed(spot + 1);
        }
    }

    /** "at first all END", "0 END: ends with the result ra": with all registers alike it is the same, whichever a is. */
    private static void newCodeEndsWithARegister() {
        for (int spot = 24; spot < 64; spot++) {
            Machine m = Machine.withChild("new code at " + spot).set(1, 7).set(2, 7).set(3, 7).jump(spot);
            m.spawn(0, 7, 0).run(6, 6).ended(1, 7).parent(1, 0);
        }
    }

    /** "i outside 0..63 ... refused, answers false" */
    private static void codeAtNoSpot() {
        Machine m = new Machine("code: i outside").put(Machine.OUT).put(Machine.END).at(63).put(Machine.OUT);
        for (int i : new int[] {-1, 64, 65, -64, 128, MIN, MAX}) {
            m.code(i, Machine.YIELD, 0, false);
        }
        m.spawn(0, 3, 0).run(80, 1).executed(2).spawn(63, 4, 0).run(80, 1).executed(4).output(3, 4);
    }

    /** "i outside 0..63": 0 and 63 are inside. */
    private static void codeAtTheFirstAndTheLastSpot() {
        Machine m = new Machine("code: i at the edge").code(0, Machine.OUT, 0, true).code(63, Machine.OUT, 0, true);
        m.spawn(0, 3, 0).run(80, 1).spawn(63, 4, 0).run(80, 1).output(3, 4);
    }

    /** "what outside 0..511 ... refused, answers false", though its op, a and b would do. */
    private static void codeOfAWhatOutside() {
        Machine m = new Machine("code: what outside").put(Machine.OUT).put(Machine.END);
        for (int what : new int[] {-1, 512, 512 + 20, 1024 + 20, -512 + 20, -8, MIN, MIN + 20, MAX, MAX - 31}) {
            m.code(0, what, 0, false);
        }
        m.spawn(0, 3, 0).run(80, 1).output(3).executed(2);
    }

    /** "what = op + 32 * a + 128 * b": 0 is the smallest, 504 (KILL with r3 and r3) the greatest that is not refused. */
    private static void codeOfTheSmallestAndTheGreatestWhat() {
        Machine m = new Machine("code: the greatest what").code(0, 504, 0, true).code(1, 20, 0, true).spawn(0, 3, 0);
        m.run(1, 1).registers(0, 3, 0, 0, -1).ready(0, 2);
        Machine s = new Machine("code: the smallest what").code(0, 21, 0, true).code(0, 0, 0, true).spawn(0, 3, 0);
        s.run(80, 1).free(0).output().executed(1);
    }

    /** "or op (what & 31) above 24: refused, answers false. Else true.": with every a and b. */
    private static void codeOfAnOpAbove24() {
        for (int ab = 0; ab < 16; ab++) {
            Machine m = new Machine("code: op above 24, a and b " + ab).put(Machine.OUT).put(Machine.END);
            for (int op = 25; op < 32; op++) {
                m.code(0, op + 32 * ab, 0, false);
            }
            m.spawn(0, 3, 0).run(80, 1).output(3).executed(2);
            for (int op = 0; op < 25; op++) {
                m.code(0, op + 32 * ab, 0, true);
            }
        }
    }

    /** n is not refused, whatever it is. */
    private static void codeOfAnyNumber() {
        for (int n : new int[] {MIN, -1, 0, 1, 64, MAX}) {
            new Machine("code: n " + n).set(2, n).put(Machine.YIELD).spawn(0, 0, 0).run(1, 1).registers(0, 0, 0, n, 0);
        }
    }

    /** Six processes that turn round at 0; the last one is the last that was free. */
    private static Machine six(String name) {
        Machine m = new Machine(name).jump(0);
        for (int p = 0; p < 6; p++) {
            m.free(p).spawn(0, 10 + p, p).ready(p, 0).parent(p, -1).registers(p, 10 + p, 0, 0, 0);
        }
        return m;
    }

    /** "The smallest free process becomes ready" */
    private static void spawnOfTheLastFreeOne() {
        for (int p = 0; p < 6; p++) {
            six("spawn: one is free").kill(p, 0, true).free(p).spawn(40, 99, p).ready(p, 40).registers(p, 99, 0, 0, 0);
        }
        six("spawn: the smallest").kill(4, 0, true).kill(1, 0, true).kill(5, 0, true).spawn(0, 0, 1).spawn(0, 0, 4);
    }

    /** "BAD if none is free.", and nothing changes. */
    private static void spawnWithNobodyFree() {
        Machine m = six("spawn: none is free").spawn(40, 99, BAD).spawn(MIN, MIN, BAD);
        for (int p = 0; p < 6; p++) {
            m.ready(p, 0).parent(p, -1).registers(p, 10 + p, 0, 0, 0);
        }
        m.at(0).put(Machine.OUT).put(Machine.YIELD).jump(0).run(7, 7).output(10, 11, 12, 13, 14, 15, 10);
    }

    /** "BAD if none is free.": an ended one is not free. */
    private static void spawnWithAnEndedOneOnly() {
        Machine m = Machine.withChildren("spawn: an ended one").put(Machine.WAIT, 2, 3).put(Machine.YIELD).jump(21);
        m.spawn(0, 5, 0).run(70, 70).kill(3, 6, true).ended(3, 6).spawn(60, 99, BAD).ended(3, 6);
        m.run(5, 5).registers(0, 0, 6, 6, 3).free(3).spawn(60, 99, 3).ready(3, 60).parent(3, -1);
    }

    /** "with register 0 = x, everything else 0 or nothing" */
    private static void spawnLeavesNothingOfTheOneBefore() {
        Machine m = full("spawn: everything else").kill(1, 0, true).spawn(50, -5, 1).ready(1, 50).parent(1, -1);
        m.registers(1, -5, 0, 0, 0).descriptors(1, 0, 0, 0, 0);
        for (int i = 0; i < 32; i++) {
            m.word(1, i, 0);
        }
    }

    /** "n clamped into 0..80": from below. */
    private static void runBelowZero() {
        for (int n : new int[] {0, -1, -80, MIN}) {
            six("run: " + n).run(n, 0).executed(0).ready(0, 0);
        }
    }

    /** "n clamped into 0..80": from above. */
    private static void runAboveEighty() {
        for (int n : new int[] {80, 81, 82, 160, MAX}) {
            six("run: " + n).run(n, 80).executed(240);
        }
        six("run: 79").run(79, 79).executed(237);
        six("run: 1").run(1, 1).executed(3);
    }

    /** "as long as there are any; answers how many" */
    private static void runAsLongAsThereAreTurns() {
        for (int n = 0; n < 6; n++) {
            Machine m = new Machine("run: four turns at the most, " + n).put(Machine.YIELD).put(Machine.YIELD);
            m.put(Machine.YIELD).put(Machine.END).spawn(0, 0, 0);
            int first = n < 4 ? n : 4;
            m.run(n, first).executed(first).run(n, n < 4 - first ? n : 4 - first);
        }
    }

    /** "BAD for p outside 0..5." */
    private static void stateOutside() {
        Machine m = six("state: outside");
        for (int p : NO_PROCESS) {
            m.state(p, BAD);
        }
    }

    /** "FREE, READY, WAITING or ENDED": of 0 and of 5. */
    private static void stateOfTheFirstAndTheLast() {
        Machine m = Machine.withChildren("state: 0 and 5").put(Machine.WAIT, 2, 3).put(Machine.YIELD).jump(21);
        m.state(0, TeachingKernel.FREE).state(5, TeachingKernel.FREE).spawn(0, 5, 0).state(0, TeachingKernel.READY);
        m.run(70, 70).state(0, TeachingKernel.WAITING).state(5, TeachingKernel.READY);
        m.kill(5, 0, true).state(5, TeachingKernel.ENDED);
        Machine w = six("state: 5 waits").at(0).put(Machine.PIPE, 1, 2).put(Machine.READ, 3, 1).put(Machine.END);
        w.kill(0, 0, true).kill(1, 0, true).kill(2, 0, true).run(80, 3).state(5, TeachingKernel.WAITING);
        Machine e = new Machine("state: 0 ended").put(Machine.FORK, 1).put(Machine.YIELD).jump(1).at(9).jump(9);
        e.spawn(9, 0, 0).spawn(0, 0, 1).kill(0, 0, true).run(1, 1).parent(0, 1).kill(0, 4, true).ended(0, 4).parent(0, 1);
    }

    /** "BAD else.": for a free one and outside. */
    private static void spotOfNoProcess() {
        Machine m = six("spot: outside");
        for (int p : NO_PROCESS) {
            m.spot(p, BAD);
        }
        Machine f = new Machine("spot: free");
        for (int p = 0; p < 6; p++) {
            f.spot(p, BAD);
        }
        f.spawn(33, 0, 0).spot(0, 33).run(1, 1).spot(0, BAD);
        f.spawn(-1, 0, 0).spot(0, -1).run(1, 1).spot(0, BAD).spawn(BAD, 0, 0).spot(0, BAD).state(0, TeachingKernel.READY);
    }

    /** "The result of an ended process, the spot of a ready or waiting one" */
    private static void spotOfAnEndedOne() {
        for (int result : new int[] {MIN, -1000, -1, 0, 63, 64, MAX}) {
            Machine m = Machine.withChild("spot: the result " + result).put(Machine.END).spawn(0, result, 0).run(2, 2);
            m.ended(1, result);
        }
        Machine w = new Machine("spot: one that waits").at(62).put(Machine.PIPE, 1, 2).put(Machine.READ, 3, 1);
        w.spawn(62, 0, 0).spot(0, 62).run(1, 1).waiting(0, 63);
    }

    /** "BAD if p is free or outside 0..5." */
    private static void parentOfNoProcess() {
        Machine m = six("parent: outside");
        for (int p : NO_PROCESS) {
            m.parent(p, BAD);
        }
        for (int p = 0; p < 6; p++) {
            m.parent(p, -1).kill(p, 0, true).parent(p, BAD);
        }
    }

    /** "-1 if it has none": never had one, or has one no longer. */
    private static void parentOfOneWithout() {
        Machine m = Machine.withChild("parent: none").put(Machine.YIELD).jump(20).spawn(0, 0, 0).parent(0, -1).run(2, 2);
        m.parent(0, -1).parent(1, 0).kill(0, 0, true).parent(1, -1).spawn(3, 0, 0).parent(1, -1).parent(0, -1);
    }

    /** "The parent of a process that is not free": ended ones have it too, until they are free. */
    private static void parentOfAnEndedOne() {
        Machine m = new Machine("parent: ended").put(Machine.FORK, 1).put(Machine.YIELD).jump(1).at(9).jump(9);
        for (int p = 0; p < 5; p++) {
            m.spawn(9, 0, p);
        }
        m.spawn(0, 0, 5).kill(0, 0, true).run(5, 5).register(5, 1, 0).parent(0, 5).kill(0, 3, true).ended(0, 3).parent(0, 5);
        m.kill(5, 0, true).parent(0, BAD).parent(5, BAD);
    }

    /** Processes 0 to 2 with all registers, both ends of a pipe, twice, and the words 0 and 31 as anything but 0. */
    private static Machine full(String name) {
        Machine m = new Machine(name).put(Machine.PIPE, 1, 2).put(Machine.COPY, 3, 1).put(Machine.COPY, 3, 2);
        m.set(3, 33).put(Machine.STORE, 3, 1, 0).put(Machine.STORE, 3, 1, 31).set(1, 31).set(2, 32);
        m.put(Machine.YIELD).put(Machine.YIELD).jump(9);
        for (int p = 0; p < 3; p++) {
            m.spawn(0, 30, p);
        }
        m.run(9, 9);
        for (int p = 0; p < 3; p++) {
            m.ready(p, 9).registers(p, 30, 31, 32, 33).word(p, 0, 33).word(p, 31, 33);
            m.descriptors(p, 1 + 2 * p, 2 + 2 * p, 1 + 2 * p, 2 + 2 * p);
        }
        return m;
    }

    /** As full, but process 1 is a child of 0 that has ended. */
    private static Machine fullAndEnded(String name) {
        Machine m = Machine.withChild(name).put(Machine.PIPE, 1, 2).set(1, 31).set(3, 33);
        m.put(Machine.STORE, 3, 3, -33).put(Machine.STORE, 3, 3, -2).put(Machine.YIELD).put(Machine.END);
        m.spawn(0, 30, 0).run(6, 6).registers(1, 30, 31, 1, 33).word(1, 0, 33).word(1, 31, 33).descriptors(1, 1, 2, 0, 0);
        return m.run(2, 2).ended(1, 30);
    }

    /** "Register r of a ready or waiting process; 0 else": free ones and outside. */
    private static void registerOfNoProcess() {
        Machine m = full("register: outside");
        for (int p : NO_PROCESS) {
            m.register(p, 0, 0).register(p, 3, 0);
        }
        m.kill(1, 0, true).free(1).registers(1, 0, 0, 0, 0).registers(3, 0, 0, 0, 0).registers(0, 30, 31, 32, 33);
    }

    /** "and for r outside 0..3": no neighbour's register either. */
    private static void registerOutside() {
        Machine m = full("register: r outside");
        for (int r : new int[] {-1, 4, 5, -4, MIN, MAX, 1 << 30}) {
            m.register(0, r, 0).register(1, r, 0).register(5, r, 0).register(-1, r, 0).register(6, r, 0);
        }
        m.register(-1, 4, 0).register(6, -4, 0).register(-1, 5, 0).register(2, -8, 0);
    }

    /** "Register r of a ready or waiting process; 0 else": ended ones; a waiting one has them. */
    private static void registerOfAnEndedOne() {
        fullAndEnded("register: ended").registers(1, 0, 0, 0, 0);
        Machine w = new Machine("register: waiting").put(Machine.PIPE, 1, 2).put(Machine.STORE, 0, 1, 31);
        w.put(Machine.READ, 3, 1).spawn(0, 8, 0).run(1, 1).waiting(0, 2).registers(0, 8, 0, 1, 0);
        w.word(0, 31, 8).descriptors(0, 1, 2, 0, 0);
    }

    /** "Memory word i of a ready or waiting process; 0 else": free ones and outside. */
    private static void wordOfNoProcess() {
        Machine m = full("word: outside");
        for (int p : NO_PROCESS) {
            m.word(p, 0, 0).word(p, 31, 0);
        }
        m.kill(1, 0, true).free(1).word(1, 0, 0).word(1, 31, 0).word(3, 0, 0).word(0, 0, 33).word(0, 31, 33);
    }

    /** "and for i outside 0..31": no neighbour's word either. */
    private static void wordOutside() {
        Machine m = full("word: i outside");
        for (int i : new int[] {-1, 32, 63, -32, MIN, MAX, 1 << 27}) {
            m.word(0, i, 0).word(1, i, 0).word(5, i, 0).word(-1, i, 0).word(6, i, 0);
        }
    }

    /** "Memory word i of a ready or waiting process; 0 else": ended ones. */
    private static void wordOfAnEndedOne() {
        fullAndEnded("word: ended").word(1, 0, 0).word(1, 31, 0);
    }

    /** "0 for nothing, and else.": free ones and outside. */
    private static void descriptorOfNoProcess() {
        Machine m = full("descriptor: outside");
        for (int p : NO_PROCESS) {
            m.descriptor(p, 0, 0).descriptor(p, 3, 0);
        }
        m.kill(1, 0, true).free(1).descriptors(1, 0, 0, 0, 0).descriptors(3, 0, 0, 0, 0).descriptors(0, 1, 2, 1, 2);
    }

    /** "0 for nothing, and else.": d outside 0..3, no neighbour's descriptor either. */
    private static void descriptorOutside() {
        Machine m = full("descriptor: d outside");
        for (int d : new int[] {-1, 4, 5, -4, MIN, MAX, 1 << 30}) {
            m.descriptor(0, d, 0).descriptor(1, d, 0).descriptor(5, d, 0).descriptor(-1, d, 0).descriptor(6, d, 0);
        }
    }

    /** "0 for nothing, and else.": ended ones. */
    private static void descriptorOfAnEndedOne() {
        fullAndEnded("descriptor: ended").descriptors(1, 0, 0, 0, 0).pipe(0, -1);
    }

    /** "1 + 2 * pipe for a reading end, 2 + 2 * pipe for a writing end": up to pipe 2. */
    private static void descriptorOfTheLastPipe() {
        full("descriptor: the last pipe").descriptor(2, 0, 5).descriptor(2, 1, 6);
    }

    /** "BAD for k outside 0..2." */
    private static void pipeOutside() {
        Machine m = full("pipe: outside");
        for (int k : new int[] {-1, 3, 4, -3, MIN, MAX, 1 << 30, (1 << 30) + 1}) {
            m.pipe(k, BAD);
        }
        m.pipe(0, 0).pipe(1, 0).pipe(2, 0);
    }

    /** "-1 if it is not there" */
    private static void pipeThatIsNotThere() {
        new Machine("pipe: not yet there").pipe(0, -1).pipe(1, -1).pipe(2, -1);
        Machine m = full("pipe: no longer there");
        for (int p = 0; p < 3; p++) {
            m.pipe(p, 0).kill(p, 0, true).pipe(p, -1);
        }
    }

    /** "The number of words in pipe k": from 0 to 4. */
    private static void pipeFromEmptyToFull() {
        Machine m = new Machine("pipe: words").put(Machine.PIPE, 1, 2).put(Machine.YIELD).put(Machine.WRITE, 0, 2).jump(1);
        m.spawn(0, 8, 0);
        for (int words = 0; words < 5; words++) {
            m.run(1, 1).pipe(0, words).pipe(1, -1);
        }
        m.run(80, 1).waiting(0, 2).pipe(0, 4);
    }

    /** "(what ends a process counts)": END, a word, a pipe without a reader, a spot; and what kills counts once. */
    private static void executedCountsWhatEnds() {
        new Machine("executed: END").spawn(0, 0, 0).run(80, 1).executed(1);
        new Machine("executed: no word to load").put(Machine.LOAD, 1, 0, -1).spawn(0, 0, 0).run(80, 1).free(0).executed(1);
        new Machine("executed: no word to store").put(Machine.STORE, 1, 0, 32).spawn(0, 0, 0).run(80, 1).free(0).executed(1);
        Machine w = new Machine("executed: no reader").put(Machine.PIPE, 1, 2).put(Machine.CLOSE, 3, 1);
        w.put(Machine.WRITE, 0, 2).spawn(0, 0, 0).run(80, 1).free(0).executed(3);
        new Machine("executed: no spot").spawn(-1, 0, 0).spawn(64, 0, 1).run(80, 2).free(0).free(1).executed(2);
        Machine k = new Machine("executed: KILL").put(Machine.KILL, 1, 0).put(Machine.YIELD).at(9).jump(9);
        k.spawn(0, 1, 0).spawn(9, 0, 1).run(1, 1).free(1).executed(2);
    }

    /** "The number of instructions that all processes have executed": those that answer -1 or -2 too, those that wait not. */
    private static void executedCountsWhatFails() {
        int[] ops = {Machine.WAIT, Machine.READ, Machine.WRITE, Machine.CLOSE, Machine.COPY, Machine.KILL};
        for (int op : ops) {
            Machine m = new Machine("executed: op " + op + " fails").put(op, 1, 0).put(Machine.YIELD);
            m.spawn(0, -1, 0).run(1, 1).registers(0, -1, -1, 0, 0).executed(2);
        }
        Machine w = new Machine("executed: waits").put(Machine.PIPE, 1, 2).put(Machine.READ, 3, 1);
        w.executed(0).spawn(0, 0, 0).run(80, 1).executed(1).run(80, 0).executed(1);
    }

    /** "The number of instructions that all processes have executed": a kill from outside is none, and takes none back. */
    private static void executedCountsNoKillFromOutside() {
        six("executed: kill").run(6, 6).executed(18).kill(0, 0, true).kill(5, 0, true).executed(18).run(4, 4).executed(30);
    }

    /** "The number of ints in the output.": more than output(k) shows. */
    private static void printedAbove32() {
        Machine m = new Machine("printed").put(Machine.OUT).put(Machine.YIELD).jump(0).printed(0).spawn(0, 8, 0);
        for (int n = 1; n < 36; n++) {
            m.run(1, 1).printed(n);
        }
    }

    /** "0 if there is none": before the first int, below 0, and behind the last int. */
    private static void outputBeforeAnyAndBehindTheLast() {
        Machine m = new Machine("output: none").put(Machine.OUT).put(Machine.ADD_NUMBER, 0, 0, 1).jump(0);
        m.outputAt(0, 0).outputAt(31, 0).spawn(0, 70, 0);
        for (int n = 1; n < 33; n++) {
            m.run(1, 1).outputAt(n - 1, 69 + n).outputAt(n, 0).outputAt(0, 70).outputAt(-1, 0);
        }
        m.outputAt(MIN, 0).outputAt(-32, 0).outputAt(-1, 0);
    }

    /** "or k is above 31": 31 is the last one that is shown. */
    private static void outputAbove31() {
        Machine m = new Machine("output: above 31").put(Machine.OUT).put(Machine.ADD_NUMBER, 0, 0, 1).jump(0);
        m.spawn(0, 70, 0).run(70, 70).printed(70).outputAt(0, 70).outputAt(30, 100).outputAt(31, 101);
        m.outputAt(32, 0).outputAt(33, 0).outputAt(63, 0).outputAt(64, 0).outputAt(69, 0).outputAt(70, 0).outputAt(MAX, 0);
    }

    /** "p is outside 0..5 ...: refused, answers false." */
    private static void killOutside() {
        Machine m = six("kill: outside");
        for (int p : NO_PROCESS) {
            m.kill(p, 5, false);
        }
        for (int p = 0; p < 6; p++) {
            m.ready(p, 0).kill(p, 5, true).free(p);
        }
    }

    /** "p is ... free ...: refused, answers false." */
    private static void killOfAFreeOne() {
        Machine m = new Machine("kill: free");
        for (int p = 0; p < 6; p++) {
            m.kill(p, 5, false).free(p);
        }
        m.spawn(0, 0, 0).kill(1, 5, false).kill(0, 5, true).kill(0, 5, false).free(0).run(80, 0);
    }

    /** "p is ... ended: refused, answers false.", and the result stays. */
    private static void killOfAnEndedOne() {
        Machine m = Machine.withChild("kill: ended").put(Machine.END).spawn(0, 30, 0).run(2, 2).ended(1, 30);
        m.kill(1, 5, false).ended(1, 30).parent(1, 0).run(1, 1).kill(1, 30, false).ended(1, 30);
    }

    /** "Process p ends with a result as if killed. ... Else true.": a ready one and a waiting one, with any result. */
    private static void killWithAnyResult() {
        for (int result : new int[] {MIN, BAD, -3, -1, 0, 1, MAX}) {
            Machine r = Machine.withChild("kill: ready, " + result).put(Machine.YIELD).jump(20).spawn(0, 30, 0);
            r.run(2, 2).ready(1, 21).kill(1, result, true).ended(1, result).parent(1, 0).run(1, 1).executed(7);
            Machine w = Machine.withChild("kill: waiting, " + result).put(Machine.PIPE, 1, 2).put(Machine.READ, 3, 1);
            w.spawn(0, 30, 0).run(4, 4).waiting(1, 21).pipe(0, 0);
            w.kill(1, result, true).ended(1, result).parent(1, 0).pipe(0, -1).descriptors(1, 0, 0, 0, 0);
        }
    }

    /** "k outside 0..2: refused, answers false. Else true." */
    private static void levelOutside() {
        Machine m = new Machine("level");
        for (int k : new int[] {-1, 3, 4, -3, MIN, MAX}) {
            m.level(k, false);
        }
        m.level(0, true).level(1, true).level(2, true).level(2, true);
    }

    /** "It shows in no answer.": the same run with each level, set before, between and behind a fork, and refused. */
    private static void levelShowsInNoAnswer() {
        int[][] levels = {{0, 0}, {0, 1}, {0, 2}, {1, 0}, {1, 1}, {1, 2}, {2, 0}, {2, 1}, {2, 2}, {-1, 3}};
        for (int[] pair : levels) {
            boolean taken = pair[0] >= 0;
            Machine m = Machine.withChild("level " + pair[0] + ", then " + pair[1]).level(pair[0], taken);
            m.put(Machine.YIELD).put(Machine.STORE, 0, 1, 0).put(Machine.STORE, 0, 1, 31).put(Machine.YIELD).jump(23);
            m.spawn(0, 30, 0).run(2, 2).level(pair[1], taken).word(0, 0, 0).word(1, 0, 0);
            m.run(2, 2).word(1, 0, 30).word(1, 31, 30).word(0, 0, 0).word(0, 31, 0).level(pair[0], taken);
            m.word(1, 0, 30).word(1, 31, 30).word(0, 0, 0).registers(0, 30, 0, 0, 2).registers(1, 30, 0, 0, 0).executed(10);
        }
    }

    /** "FORK: the copy, too, goes on with the instruction behind the FORK." */
    private static void bothGoOnBehindTheFork() {
        Machine m = new Machine("behind the fork").put(Machine.FORK, 0).put(Machine.OUT).put(Machine.YIELD).jump(2);
        m.spawn(0, 9, 0).run(1, 1).ready(1, 1).ready(0, 3).output(1).run(1, 1).ready(1, 3).output(1, -1).executed(5);
    }

    /** The instruction behind a FORK at 63 is at 64, where there is none. */
    private static void bothGoOnBehindAForkAtTheLastSpot() {
        Machine m = Machine.withChild("behind a fork at 63").jump(63).at(63).put(Machine.FORK, 1);
        m.spawn(0, 9, 0).run(4, 4).ended(1, -4).ready(2, 64).parent(2, -1).run(80, 80).free(2).ended(1, -4);
    }
}
