/** The sentences of the Terms on pipes and descriptors that name an edge, each with a test of its own. */
public final class PipeEdgesTest {
    private static final int[] OUTSIDE = {-1, 4, 5, -4, Integer.MIN_VALUE, Integer.MAX_VALUE, 1 << 30};

    public static void main(String[] args) {
        pipeWithTwoDescriptorsLeft();
        pipeWithTwoDescriptorsApart();
        pipeWithOneDescriptorLeft();
        pipeWithNoDescriptorLeft();
        pipeWithOnePipeLeft();
        pipeWithNoPipeLeft();
        pipeIntoOneRegister();
        pipeIsThereByOneEnd();
        pipeIsEmptyAtFirst();
        threePipesFullAtOnce();
        readOutside();
        readOfNoReadingEnd();
        readOfWords();
        readOfTheLastWord();
        readWithoutAWriter();
        readOfWordsWithoutAWriter();
        readWaits();
        readWakesForAWord();
        readWakesAsTheLastWriterGoes();
        writeOutside();
        writeToNoWritingEnd();
        writeOfFourWords();
        writeOfAFifthWordWaits();
        writeWithoutAReader();
        writeToAFullPipeWithoutAReader();
        writeWithAReaderElsewhere();
        writeWakesForRoom();
        writeWakesAsTheLastReaderGoes();
        closeOutside();
        closeOfNothing();
        closeOfTheLastEnd();
        copyOutside();
        copyOfNothing();
        copyWithNoDescriptorLeft();
        copyIntoTheLastDescriptor();
        copyIntoTheSmallest();
        Checks.close();
    }

    /** Process 0 with one pipe, its reading end 0 in r1 and its writing end 1 in r2; code is put behind. */
    private static Machine onePipe(String name) {
        return new Machine(name).put(Machine.PIPE, 1, 2);
    }

    /** Process 0 with two pipes, so that no descriptor is nothing, at 6 with r0 = 3, r1 = 0, r2 = 1, r3 = 2. */
    private static Machine twoPipes(String name) {
        Machine m = onePipe(name).put(Machine.PIPE, 3, 0).put(Machine.YIELD).jump(6).at(6);
        return m.spawn(0, 9, 0).run(1, 1).registers(0, 3, 0, 1, 2).descriptors(0, 1, 2, 3, 4);
    }

    /** "15: if it has two descriptors that are nothing": it has just two. */
    private static void pipeWithTwoDescriptorsLeft() {
        twoPipes("15: two descriptors").pipe(0, 0).pipe(1, 0).pipe(2, -1).executed(3);
    }

    /** "the smallest such descriptor becomes the reading end, the next one the writing end" */
    private static void pipeWithTwoDescriptorsApart() {
        Machine m = twoPipes("15: the next one").put(Machine.CLOSE, 1, 2).put(Machine.CLOSE, 2, 0);
        m.put(Machine.PIPE, 3, 0).put(Machine.YIELD).run(1, 1).descriptors(0, 1, 0, 3, 0).pipe(0, 0).pipe(1, 0);
        m.run(1, 1).descriptors(0, 1, 5, 3, 6).registers(0, 3, 0, 0, 1).pipe(2, 0);
    }

    /** "15: if it has two descriptors that are nothing ... else ra = -1": it has one. */
    private static void pipeWithOneDescriptorLeft() {
        for (int d = 0; d < 4; d++) {
            int[] left = {1, 2, 3, 4};
            left[d] = 0;
            Machine m = twoPipes("15: descriptor " + d + " alone").set(1, d).put(Machine.CLOSE, 2, 1).put(Machine.PIPE, 3, 0);
            m.put(Machine.YIELD).run(1, 1).ready(0, 8).run(1, 1).registers(0, 3, d, 0, -1).ready(0, 10);
            m.descriptors(0, left[0], left[1], left[2], left[3]).pipe(0, 0).pipe(1, 0).pipe(2, -1).executed(8);
        }
    }

    /** "15: if it has two descriptors that are nothing ... else ra = -1": it has none. */
    private static void pipeWithNoDescriptorLeft() {
        Machine m = twoPipes("15: no descriptor").put(Machine.PIPE, 1, 2).put(Machine.YIELD);
        m.run(1, 1).registers(0, 3, -1, 1, 2).descriptors(0, 1, 2, 3, 4).pipe(2, -1).ready(0, 8).executed(6);
    }

    /** "and a pipe is not there: ... of the smallest such pipe" */
    private static void pipeWithOnePipeLeft() {
        for (int k = 0; k < 3; k++) {
            Machine m = onePipe("15: pipe " + k + " alone").put(Machine.YIELD).jump(1).spawn(0, 0, 0).spawn(0, 0, 1);
            m.spawn(0, 0, 2).run(3, 3).kill(k, 0, true).pipe(k, -1).spawn(0, 0, k).run(3, 3);
            m.descriptors(k, 1 + 2 * k, 2 + 2 * k, 0, 0).registers(k, 0, 0, 1, 0).pipe(k, 0);
        }
        Machine s = onePipe("15: the smallest pipe").put(Machine.YIELD).jump(1).spawn(0, 0, 0).spawn(0, 0, 1);
        s.spawn(0, 0, 2).run(3, 3).kill(2, 0, true).kill(1, 0, true).pipe(1, -1).pipe(2, -1).spawn(0, 0, 1).run(2, 2);
        s.descriptors(1, 3, 4, 0, 0).pipe(1, 0).pipe(2, -1);
    }

    /** "and a pipe is not there ... else ra = -1": all three are there. */
    private static void pipeWithNoPipeLeft() {
        Machine m = onePipe("15: no pipe").put(Machine.YIELD).jump(1);
        m.spawn(0, 8, 0).spawn(0, 8, 1).spawn(0, 8, 2).spawn(0, 8, 3).run(4, 4).descriptors(2, 5, 6, 0, 0);
        m.registers(3, 8, -1, 0, 0).descriptors(3, 0, 0, 0, 0).ready(3, 2).pipe(0, 0).pipe(1, 0).pipe(2, 0).executed(8);
    }

    /** "ra = the first one, then rb = the second one": in one register the second stays. */
    private static void pipeIntoOneRegister() {
        Machine m = new Machine("15: ra is rb").put(Machine.PIPE, 3, 3).put(Machine.YIELD);
        m.spawn(0, 8, 0).run(1, 1).registers(0, 8, 0, 0, 1).descriptors(0, 1, 2, 0, 0);
    }

    /** "a pipe is THERE iff some descriptor is an end of it" */
    private static void pipeIsThereByOneEnd() {
        for (int first = 1; first < 3; first++) {
            Machine m = onePipe("there by one end, " + first + " closed first").put(Machine.CLOSE, 3, first);
            m.put(Machine.YIELD).put(Machine.CLOSE, 3, 3 - first).put(Machine.YIELD);
            m.pipe(0, -1).spawn(0, 8, 0).run(1, 1).pipe(0, 0).run(1, 1).pipe(0, -1).descriptors(0, 0, 0, 0, 0);
        }
        Machine o = onePipe("there by another's end").put(Machine.FORK, 3).put(Machine.YIELD).jump(2);
        o.spawn(0, 8, 0).run(2, 2).kill(0, 0, true).pipe(0, 0).descriptors(1, 1, 2, 0, 0).kill(1, 0, true).pipe(0, -1);
    }

    /** "then it has a list of up to 4 words, at first none": also if it was there before, with words. */
    private static void pipeIsEmptyAtFirst() {
        Machine m = onePipe("at first none").put(Machine.WRITE, 0, 2).put(Machine.WRITE, 0, 2);
        m.put(Machine.CLOSE, 3, 2).put(Machine.CLOSE, 3, 1).put(Machine.YIELD).put(Machine.PIPE, 1, 2).put(Machine.READ, 3, 1);
        m.spawn(0, 8, 0).run(1, 1).pipe(0, 2).run(1, 1).pipe(0, -1).run(1, 1).pipe(0, 0).waiting(0, 7);
    }

    /** "There are 3 PIPES, 0 to 2", each with "a list of up to 4 words" of its own. */
    private static void threePipesFullAtOnce() {
        Machine m = onePipe("three full pipes");
        for (int i = 0; i < 4; i++) {
            m.put(Machine.WRITE, 0, 2).put(Machine.ADD_NUMBER, 0, 0, 1);
        }
        m.put(Machine.YIELD);
        for (int i = 0; i < 4; i++) {
            m.put(Machine.READ, 3, 1).put(Machine.OUT, 3);
        }
        m.put(Machine.YIELD).spawn(0, 10, 0).spawn(0, 20, 1).spawn(0, 30, 2);
        m.run(12, 12).pipe(0, 4).pipe(1, 4).pipe(2, 4).run(9, 9).pipe(0, 0).pipe(1, 0).pipe(2, 0);
        m.output(10, 20, 30, 11, 12, 21, 22, 31, 32, 13, 23, 33);
    }

    /** "16 READ: ... (or rb is not from 0 to 3): ra = -1" */
    private static void readOutside() {
        for (int rb : OUTSIDE) {
            Machine m = onePipe("16: rb is " + rb).put(Machine.READ, 3, 0).put(Machine.YIELD);
            m.spawn(0, rb, 0).run(1, 1).registers(0, rb, 0, 1, -1).ready(0, 3).executed(3);
        }
        neighbours(Machine.READ);
    }

    /** Process 1 has nothing; descriptor -1 or 4 must not be taken for one of its neighbours', which are ends. */
    private static void neighbours(int op) {
        Machine m = onePipe("neighbours of op " + op).put(Machine.COPY, 3, 1).put(Machine.COPY, 3, 2).put(Machine.YIELD);
        m.jump(3).at(20).put(op, 1, 0).set(0, 4).put(op, 2, 0).put(Machine.YIELD);
        m.spawn(0, 0, 0).spawn(20, -1, 1).spawn(0, 0, 2).run(3, 3);
        m.descriptors(0, 1, 2, 1, 2).descriptors(2, 3, 4, 3, 4).registers(1, 4, -1, -1, 0).descriptors(1, 0, 0, 0, 0);
        m.pipe(0, 0).pipe(1, 0).pipe(2, -1);
    }

    /** "16 READ: descriptor rb is no reading end: ra = -1": it is a writing end, or nothing. */
    private static void readOfNoReadingEnd() {
        for (int rb = 1; rb < 4; rb++) {
            Machine m = onePipe("16: no reading end, " + rb).put(Machine.READ, 3, 0).put(Machine.YIELD);
            m.spawn(0, rb, 0).run(1, 1).registers(0, rb, 0, 1, -1).ready(0, 3).executed(3).pipe(0, 0);
        }
        Machine w = onePipe("16: a writing end of a pipe with words").put(Machine.WRITE, 0, 2).put(Machine.READ, 3, 2);
        w.spawn(0, 8, 0).run(1, 1).registers(0, 8, 0, 1, -1).pipe(0, 1);
    }

    /** "if the pipe has words: ra = the first one, which goes" */
    private static void readOfWords() {
        Machine m = onePipe("16: the first word").put(Machine.WRITE, 0, 2).put(Machine.WRITE, 1, 2).put(Machine.WRITE, 2, 2);
        m.put(Machine.READ, 3, 1).put(Machine.YIELD).put(Machine.READ, 0, 1).put(Machine.YIELD);
        m.spawn(0, 8, 0).run(1, 1).pipe(0, 2).run(1, 1).pipe(0, 2).registers(0, 8, 0, 1, 8);
        m.run(1, 1).pipe(0, 1).registers(0, 0, 0, 1, 8);
    }

    /** "if the pipe has words": it has one, -2, which is no answer of its own. */
    private static void readOfTheLastWord() {
        Machine m = onePipe("16: the last word").put(Machine.WRITE, 0, 2).put(Machine.READ, 3, 1).put(Machine.READ, 3, 1);
        m.spawn(0, -2, 0).run(1, 1).pipe(0, 0).registers(0, -2, 0, 1, -2).ready(0, 3).run(1, 1).waiting(0, 3).executed(3);
    }

    /** "if no descriptor is its writing end: ra = -2" */
    private static void readWithoutAWriter() {
        Machine m = onePipe("16: no writing end").put(Machine.CLOSE, 3, 2).put(Machine.READ, 3, 1).put(Machine.READ, 2, 1);
        m.put(Machine.YIELD).spawn(0, 8, 0).run(1, 1).registers(0, 8, 0, 1, -2).ready(0, 3).executed(3).pipe(0, 0);
        m.run(1, 1).registers(0, 8, 0, -2, -2).ready(0, 5);
        Machine o = onePipe("16: another pipe's writing end").put(Machine.CLOSE, 3, 2).put(Machine.READ, 3, 1);
        o.spawn(20, 0, 0).at(20).put(Machine.PIPE, 1, 2).put(Machine.YIELD).jump(21).spawn(0, 8, 1);
        o.run(2, 2).descriptors(0, 1, 2, 0, 0).descriptors(1, 3, 0, 0, 0).register(1, 3, -2);
    }

    /** "if the pipe has words: ra = the first one" comes before "if no descriptor is its writing end" */
    private static void readOfWordsWithoutAWriter() {
        Machine m = onePipe("16: words, no writing end").put(Machine.WRITE, 0, 2).put(Machine.CLOSE, 3, 2);
        m.put(Machine.READ, 3, 1).put(Machine.READ, 2, 1).put(Machine.YIELD);
        m.spawn(0, 8, 0).run(2, 2).registers(0, 8, 0, -2, 8).ready(0, 6).pipe(0, 0);
    }

    /** "16: else it waits": some descriptor, be it its own, a copy or another's, is the writing end. */
    private static void readWaits() {
        Machine m = onePipe("16: waits, its own writing end").put(Machine.READ, 3, 1);
        m.spawn(0, 8, 0).run(80, 1).waiting(0, 1).registers(0, 8, 0, 1, 0).executed(1);
        Machine c = onePipe("16: waits, a copy").put(Machine.COPY, 3, 2).put(Machine.CLOSE, 3, 2).put(Machine.READ, 3, 1);
        c.spawn(0, 8, 0).run(80, 2).waiting(0, 3).descriptors(0, 1, 0, 2, 0).executed(3);
        readerAndWriter("16: waits, another's").run(3, 3).descriptors(0, 1, 0, 0, 0).descriptors(1, 1, 2, 0, 0).waiting(0, 5);
    }

    /** Process 0 closes the writing end and waits at 5 to read, and to print what it reads; 1 goes on at 21 in turn 4. */
    private static Machine readerAndWriter(String name) {
        Machine m = onePipe(name).put(Machine.FORK, 3).put(Machine.ADD_NUMBER, 3, 0, 1).put(Machine.JUMP_IF_ZERO, 3, 0, 20);
        m.put(Machine.CLOSE, 3, 2).put(Machine.READ, 3, 1).put(Machine.OUT, 3).put(Machine.YIELD).jump(7);
        return m.at(20).put(Machine.YIELD).spawn(0, 8, 0);
    }

    /** A waiting reader "would not wait at its instruction now": there is a word. */
    private static void readWakesForAWord() {
        Machine m = readerAndWriter("16: woken by a word").put(Machine.WRITE, 0, 2).put(Machine.YIELD).jump(22);
        m.run(4, 4).waiting(0, 5).pipe(0, 1).run(1, 1).ready(0, 5).pipe(0, 1).run(1, 1).output(8).pipe(0, 0).ready(0, 8);
    }

    /** A waiting reader "would not wait at its instruction now": the last writing end is closed, has ended or was killed. */
    private static void readWakesAsTheLastWriterGoes() {
        Machine c = readerAndWriter("16: woken by a CLOSE").put(Machine.CLOSE, 3, 2).put(Machine.YIELD).jump(22);
        c.run(4, 4).waiting(0, 5).run(1, 1).ready(0, 5).output().run(1, 1).output(-2).pipe(0, 0);
        Machine e = readerAndWriter("16: woken by an END").put(Machine.END);
        e.run(4, 4).waiting(0, 5).ended(1, 8).run(1, 1).output(-2).ready(0, 8).pipe(0, 0);
        Machine k = readerAndWriter("16: woken by a kill").put(Machine.YIELD).jump(21);
        k.run(4, 4).kill(1, 3, true).waiting(0, 5).run(1, 1).output(-2).ready(0, 8).ended(1, 3);
    }

    /** "17 WRITE: ... (or rb is not from 0 to 3): ra = -1" */
    private static void writeOutside() {
        for (int rb : OUTSIDE) {
            Machine m = onePipe("17: rb is " + rb).put(Machine.WRITE, 3, 0).put(Machine.YIELD);
            m.spawn(0, rb, 0).run(1, 1).registers(0, rb, 0, 1, -1).ready(0, 3).executed(3).pipe(0, 0);
        }
        neighbours(Machine.WRITE);
    }

    /** "17 WRITE: descriptor rb is no writing end: ra = -1": it is a reading end, or nothing. */
    private static void writeToNoWritingEnd() {
        for (int rb : new int[] {0, 2, 3}) {
            Machine m = onePipe("17: no writing end, " + rb).put(Machine.WRITE, 3, 0).put(Machine.YIELD);
            m.spawn(0, rb, 0).run(1, 1).registers(0, rb, 0, 1, -1).ready(0, 3).executed(3).pipe(0, 0);
        }
        Machine a = onePipe("17: a reading end, no writing end at all").put(Machine.CLOSE, 3, 2).put(Machine.WRITE, 3, 1);
        a.spawn(0, 8, 0).run(1, 1).registers(0, 8, 0, 1, -1).ready(0, 3);
    }

    private static Machine fourWords(String name) {
        Machine m = onePipe(name).put(Machine.WRITE, 0, 2).put(Machine.WRITE, 1, 2).put(Machine.WRITE, 2, 2);
        return m.put(Machine.WRITE, 0, 2);
    }

    /** "else ra becomes its last word": up to 4 words */
    private static void writeOfFourWords() {
        Machine m = fourWords("17: four words").put(Machine.YIELD).spawn(0, 8, 0).run(1, 1).pipe(0, 2).run(1, 1);
        m.ready(0, 6).pipe(0, 4).registers(0, 8, 0, 1, 0).executed(6);
        m.put(Machine.READ, 3, 1).put(Machine.OUT, 3).jump(6).run(4, 4).output(8, 0, 1, 8).pipe(0, 0).run(80, 1).waiting(0, 6);
    }

    /** "if the pipe has 4 words: it waits" */
    private static void writeOfAFifthWordWaits() {
        Machine m = fourWords("17: a fifth word").put(Machine.WRITE, 0, 2).spawn(0, 8, 0);
        m.run(80, 2).waiting(0, 5).pipe(0, 4).executed(5).registers(0, 8, 0, 1, 0).run(80, 0);
    }

    /** "if no descriptor is the pipe's reading end: it ends with the result -2" */
    private static void writeWithoutAReader() {
        Machine m = Machine.withChild("17: no reading end").put(Machine.PIPE, 1, 2).put(Machine.CLOSE, 3, 1);
        m.put(Machine.WRITE, 0, 2).put(Machine.YIELD).spawn(0, 8, 0).run(4, 4).ended(1, -2).parent(1, 0).pipe(0, -1);
        m.executed(9);
        Machine o = Machine.withChild("17: another pipe's reading end").put(Machine.PIPE, 1, 2).put(Machine.CLOSE, 3, 1);
        o.put(Machine.WRITE, 0, 2).at(40).put(Machine.PIPE, 1, 2).put(Machine.YIELD).jump(41);
        o.spawn(0, 8, 0).spawn(40, 8, 1).run(3, 3).descriptors(1, 1, 2, 0, 0).descriptors(2, 3, 4, 0, 0);
        o.run(3, 3).ended(2, -2).pipe(0, 0).pipe(1, -1);
        Machine w = onePipe("17: no reading end, another's writing end").put(Machine.CLOSE, 3, 1).put(Machine.FORK, 3);
        w.put(Machine.ADD_NUMBER, 3, 0, 1).put(Machine.JUMP_IF_ZERO, 3, 0, 20).put(Machine.YIELD).jump(5);
        w.at(20).put(Machine.WRITE, 0, 2).put(Machine.YIELD);
        w.spawn(0, 8, 0).run(2, 2).ended(1, -2).descriptors(0, 0, 2, 0, 0).pipe(0, 0);
    }

    /** "if no descriptor is the pipe's reading end" comes before "if the pipe has 4 words" */
    private static void writeToAFullPipeWithoutAReader() {
        for (int words = 1; words < 5; words++) {
            Machine m = Machine.withChild("17: no reading end, " + words + " words").put(Machine.PIPE, 1, 2);
            for (int i = 0; i < words; i++) {
                m.put(Machine.WRITE, 0, 2);
            }
            m.put(Machine.CLOSE, 3, 1).put(Machine.WRITE, 0, 2).put(Machine.YIELD);
            m.spawn(0, 8, 0).run(8, 8).ended(1, -2).pipe(0, -1);
        }
    }

    /** "no descriptor is the pipe's reading end": a copy's or another's is one. */
    private static void writeWithAReaderElsewhere() {
        Machine c = onePipe("17: a copy").put(Machine.COPY, 3, 1).put(Machine.CLOSE, 3, 1).put(Machine.WRITE, 0, 2);
        c.put(Machine.YIELD).spawn(0, 8, 0).run(2, 2).ready(0, 5).descriptors(0, 0, 2, 1, 0).pipe(0, 1);
        writerAndReader("17: another's").run(6, 6).descriptors(0, 1, 2, 0, 0).descriptors(1, 0, 2, 0, 0).pipe(0, 4);
    }

    /** Process 1 closes the reading end, writes four words and waits at 25 to write a fifth; 0 goes on at 6 in turn 7. */
    private static Machine writerAndReader(String name) {
        Machine m = onePipe(name).put(Machine.FORK, 3).put(Machine.ADD_NUMBER, 3, 0, 1).put(Machine.JUMP_IF_ZERO, 3, 0, 20);
        m.at(20).put(Machine.CLOSE, 3, 1);
        for (int i = 0; i < 5; i++) {
            m.put(Machine.WRITE, 0, 2);
        }
        return m.put(Machine.YIELD).jump(26).at(4).put(Machine.YIELD).put(Machine.YIELD).spawn(0, 8, 0);
    }

    /** A waiting writer "would not wait at its instruction now": there is room for a word. */
    private static void writeWakesForRoom() {
        Machine m = writerAndReader("17: woken by a READ").put(Machine.READ, 3, 1).put(Machine.YIELD).jump(7);
        m.run(6, 6).waiting(1, 25).pipe(0, 4).run(1, 1).waiting(1, 25).pipe(0, 3).register(0, 3, 8);
        m.run(1, 1).ready(1, 25).pipe(0, 3).run(1, 1).ready(1, 27).pipe(0, 4);
    }

    /** A waiting writer "would not wait at its instruction now": the last reading end is closed, has ended or was killed. */
    private static void writeWakesAsTheLastReaderGoes() {
        Machine c = writerAndReader("17: woken by a CLOSE").put(Machine.CLOSE, 3, 1).put(Machine.YIELD).jump(7);
        c.run(7, 7).waiting(1, 25).pipe(0, 4).run(1, 1).ready(1, 25).run(1, 1).ended(1, -2).pipe(0, 4).parent(1, 0);
        Machine e = writerAndReader("17: woken by an END").put(Machine.END);
        e.run(7, 7).free(0).waiting(1, 25).pipe(0, 4).parent(1, -1).run(80, 1).free(1).pipe(0, -1);
        Machine k = writerAndReader("17: woken by a kill").put(Machine.YIELD).jump(6);
        k.run(6, 6).kill(0, 3, true).waiting(1, 25).pipe(0, 4).run(80, 1).free(1).pipe(0, -1);
    }

    /** "18 CLOSE: if ... (or rb is not from 0 to 3): ra = -1" */
    private static void closeOutside() {
        for (int rb : OUTSIDE) {
            Machine m = twoPipes("18: rb is " + rb).set(1, rb).put(Machine.CLOSE, 3, 1).put(Machine.YIELD);
            m.run(2, 2).registers(0, 3, rb, 1, -1).descriptors(0, 1, 2, 3, 4).ready(0, 9).executed(7);
        }
        neighbours(Machine.CLOSE);
    }

    /** "18: if it is nothing: ra = -1", never an end or no longer one. */
    private static void closeOfNothing() {
        Machine m = onePipe("18: nothing").set(3, 2).put(Machine.CLOSE, 0, 3).put(Machine.CLOSE, 3, 1).put(Machine.CLOSE, 2, 1);
        m.put(Machine.YIELD).spawn(0, 8, 0).run(1, 1).registers(0, -1, 0, 1, 2).descriptors(0, 1, 2, 0, 0);
        m.run(1, 1).registers(0, -1, 0, -1, 0).descriptors(0, 0, 2, 0, 0).ready(0, 6);
    }

    /** "18 CLOSE: descriptor rb becomes nothing, ra = 0": a copy keeps the pipe there, until it is closed too. */
    private static void closeOfTheLastEnd() {
        Machine m = onePipe("18: the last end").put(Machine.CLOSE, 2, 2).put(Machine.COPY, 3, 1).put(Machine.CLOSE, 0, 1);
        m.put(Machine.YIELD).put(Machine.CLOSE, 3, 3).put(Machine.YIELD).spawn(0, 8, 0);
        m.run(1, 1).registers(0, 8, 0, 0, 1).descriptors(0, 1, 1, 0, 0).run(1, 1).descriptors(0, 0, 1, 0, 0).pipe(0, 0);
        m.register(0, 0, 0).run(1, 1).descriptors(0, 0, 0, 0, 0).pipe(0, -1).register(0, 3, 0);
    }

    /** "19 COPY: if rb is not from 0 to 3: ra = -1" */
    private static void copyOutside() {
        for (int rb : OUTSIDE) {
            Machine m = onePipe("19: rb is " + rb).put(Machine.COPY, 3, 0).put(Machine.YIELD);
            m.spawn(0, rb, 0).run(1, 1).registers(0, rb, 0, 1, -1).descriptors(0, 1, 2, 0, 0).ready(0, 3).executed(3);
        }
        neighbours(Machine.COPY);
    }

    /** "19: or that is nothing: ra = -1" */
    private static void copyOfNothing() {
        for (int rb = 2; rb < 4; rb++) {
            Machine m = onePipe("19: nothing, " + rb).put(Machine.COPY, 3, 0).put(Machine.YIELD);
            m.spawn(0, rb, 0).run(1, 1).registers(0, rb, 0, 1, -1).descriptors(0, 1, 2, 0, 0).ready(0, 3);
        }
    }

    /** "19: or there is none: ra = -1": no descriptor is nothing. */
    private static void copyWithNoDescriptorLeft() {
        for (int rb = 0; rb < 4; rb++) {
            Machine m = twoPipes("19: none, " + rb).set(1, rb).put(Machine.COPY, 2, 1).put(Machine.YIELD);
            m.run(2, 2).registers(0, 3, rb, -1, 2).descriptors(0, 1, 2, 3, 4).ready(0, 9).executed(7);
        }
    }

    /** "19 COPY: the smallest descriptor that is nothing": it is 3, the only one. */
    private static void copyIntoTheLastDescriptor() {
        Machine m = onePipe("19: the last one").put(Machine.COPY, 3, 2).put(Machine.COPY, 0, 1).put(Machine.YIELD);
        m.spawn(0, 8, 0).run(1, 1).registers(0, 3, 0, 1, 2).descriptors(0, 1, 2, 2, 1);
    }

    /** "19 COPY: the smallest descriptor that is nothing becomes what descriptor rb is": it is 0, below rb. */
    private static void copyIntoTheSmallest() {
        Machine m = onePipe("19: the smallest one").put(Machine.CLOSE, 3, 1).put(Machine.COPY, 3, 2).put(Machine.YIELD);
        m.spawn(0, 8, 0).run(1, 1).registers(0, 8, 0, 1, 0).descriptors(0, 2, 2, 0, 0);
    }
}
