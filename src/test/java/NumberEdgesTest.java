/** The sentences of the Terms that name an edge of a number, a memory word or a spot, each with a test of its own. */
public final class NumberEdgesTest {
    private static final int MIN = Integer.MIN_VALUE;
    private static final int MAX = Integer.MAX_VALUE;

    public static void main(String[] args) {
        sumWraps();
        differenceWraps();
        productWraps();
        sumWithNumberWraps();
        lessDoesNotWrap();
        loadInside();
        loadOutside();
        loadWraps();
        storeInside();
        storeOutside();
        storeWraps();
        spotBehindTheLast();
        jumpInside();
        jumpOutside();
        jumpOutsideThatIsNotTaken();
        spawnedOutside();
        Checks.close();
    }

    private static void due(String name, int op, int x, int y, int want) {
        Machine m = new Machine(name + ": " + x + " and " + y).set(1, y).put(op, 0, 1, y).put(Machine.YIELD);
        m.spawn(0, x, 0).run(1, 1).ready(0, 3).registers(0, want, y, 0, 0).executed(3);
    }

    /** "3 ra = ra + rb", "Arithmetic wraps as in Java." */
    private static void sumWraps() {
        String name = "3: ra + rb wraps";
        due(name, Machine.ADD, MAX, 1, MIN);
        due(name, Machine.ADD, 1, MAX, MIN);
        due(name, Machine.ADD, MIN, -1, MAX);
        due(name, Machine.ADD, MAX, MAX, -2);
        due(name, Machine.ADD, MIN, MIN, 0);
        due(name, Machine.ADD, MIN, MAX, -1);
        due(name, Machine.ADD, MAX - 1, 1, MAX);
    }

    /** "4 ra = ra - rb", "Arithmetic wraps as in Java." */
    private static void differenceWraps() {
        String name = "4: ra - rb wraps";
        due(name, Machine.SUBTRACT, MIN, 1, MAX);
        due(name, Machine.SUBTRACT, MAX, -1, MIN);
        due(name, Machine.SUBTRACT, 0, MIN, MIN);
        due(name, Machine.SUBTRACT, MIN, MAX, 1);
        due(name, Machine.SUBTRACT, MAX, MIN, -1);
        due(name, Machine.SUBTRACT, MIN + 1, 1, MIN);
    }

    /** "5 ra = ra * rb", "Arithmetic wraps as in Java." */
    private static void productWraps() {
        String name = "5: ra * rb wraps";
        due(name, Machine.MULTIPLY, MAX, 2, -2);
        due(name, Machine.MULTIPLY, MIN, -1, MIN);
        due(name, Machine.MULTIPLY, MIN, 2, 0);
        due(name, Machine.MULTIPLY, 65536, 65536, 0);
        due(name, Machine.MULTIPLY, 46341, 46341, -2147479015);
        due(name, Machine.MULTIPLY, 46340, 46340, 2147395600);
        due(name, Machine.MULTIPLY, MAX, MAX, 1);
        due(name, Machine.MULTIPLY, MAX, MIN, MIN);
    }

    /** "6 ra = ra + n", "Arithmetic wraps as in Java." */
    private static void sumWithNumberWraps() {
        String name = "6: ra + n wraps";
        due(name, Machine.ADD_NUMBER, MAX, 1, MIN);
        due(name, Machine.ADD_NUMBER, MIN, -1, MAX);
        due(name, Machine.ADD_NUMBER, MAX, MAX, -2);
        due(name, Machine.ADD_NUMBER, MIN, MIN, 0);
        due(name, Machine.ADD_NUMBER, -1, MIN, MAX);
        due(name, Machine.ADD_NUMBER, -1, MAX, MAX - 1);
    }

    /** "7 ra = 1 if ra < rb, else 0": equal ones are not less, and no difference is taken that could wrap. */
    private static void lessDoesNotWrap() {
        String name = "7: ra < rb";
        due(name, Machine.LESS, MIN, MAX, 1);
        due(name, Machine.LESS, MAX, MIN, 0);
        due(name, Machine.LESS, MIN, 1, 1);
        due(name, Machine.LESS, 1, MIN, 0);
        due(name, Machine.LESS, MAX, -1, 0);
        due(name, Machine.LESS, -1, MAX, 1);
        due(name, Machine.LESS, MAX - 1, MAX, 1);
        due(name, Machine.LESS, MIN, MIN, 0);
        due(name, Machine.LESS, MAX, MAX, 0);
        due(name, Machine.LESS, 0, 0, 0);
        due(name, Machine.LESS, -1, 0, 1);
        due(name, Machine.LESS, 0, -1, 0);
    }

    /** Process 1 has 50 as its word 0 and 81 as its word 31, with rb in r1, and then executes one instruction at 23. */
    private static Machine atWord(String name, int op, int rb, int n) {
        Machine m = Machine.withChild(name + ": " + rb + " + " + n).set(2, 81).put(Machine.STORE, 0, 1, 0);
        m.put(Machine.STORE, 2, 1, 31).set(1, rb).put(op, 2, 1, n).put(Machine.YIELD).jump(25);
        return m.spawn(0, 50, 0).run(6, 6);
    }

    private static void loadIs(int rb, int n, int want) {
        atWord("8: the memory word rb + n", Machine.LOAD, rb, n).register(1, 2, want).ready(1, 26);
    }

    private static void loadEnds(int rb, int n) {
        atWord("8: not from 0 to 31", Machine.LOAD, rb, n).ended(1, -1).parent(1, 0);
    }

    /** "8 ra = the memory word rb + n": the first and the last one. */
    private static void loadInside() {
        loadIs(0, 0, 50);
        loadIs(-1, 1, 50);
        loadIs(1, -1, 50);
        loadIs(31, 0, 81);
        loadIs(0, 31, 81);
        loadIs(32, -1, 81);
        loadIs(1, 0, 0);
        loadIs(30, 0, 0);
    }

    /** "8 and 9: if that is not from 0 to 31, it ends with the result -1" */
    private static void loadOutside() {
        loadEnds(-1, 0);
        loadEnds(0, -1);
        loadEnds(32, 0);
        loadEnds(0, 32);
        loadEnds(31, 1);
        loadEnds(64, 0);
        loadEnds(-32, 0);
        loadEnds(MIN, 0);
        loadEnds(0, MIN);
        loadEnds(MAX, 0);
        loadEnds(0, MAX);
    }

    /** "Arithmetic wraps as in Java.", for rb + n of 8 */
    private static void loadWraps() {
        loadIs(MIN, MIN, 50);
        loadIs(MAX, MIN + 1, 50);
        loadIs(MAX, MIN + 32, 81);
        loadIs(MIN, MIN + 31, 81);
        loadEnds(MAX, MIN);
        loadEnds(MAX, MIN + 33);
        loadEnds(MIN, MIN + 32);
        loadEnds(MIN, MAX);
        loadEnds(MAX, 1);
        loadEnds(MIN, -1);
        loadEnds(MAX, MAX);
    }

    private static void storeIs(int rb, int n, int place) {
        Machine m = atWord("9: the memory word rb + n", Machine.STORE, rb, n).ready(1, 26);
        for (int i = 0; i < 32; i++) {
            m.word(1, i, i == place || i == 31 ? 81 : i == 0 ? 50 : 0).word(0, i, 0);
        }
    }

    private static void storeEnds(int rb, int n) {
        Machine m = atWord("9: not from 0 to 31", Machine.STORE, rb, n).ended(1, -1).parent(1, 0);
        m.word(0, 0, 0).word(0, 31, 0).ready(0, 4);
    }

    /** "9 the memory word rb + n becomes ra": the first and the last one. */
    private static void storeInside() {
        storeIs(0, 0, 0);
        storeIs(-1, 1, 0);
        storeIs(1, -1, 0);
        storeIs(31, 0, 31);
        storeIs(0, 31, 31);
        storeIs(32, -1, 31);
        storeIs(0, 30, 30);
        storeIs(1, 0, 1);
    }

    /** "8 and 9: if that is not from 0 to 31, it ends with the result -1", and no word of a neighbour changes. */
    private static void storeOutside() {
        storeEnds(-1, 0);
        storeEnds(0, -1);
        storeEnds(32, 0);
        storeEnds(0, 32);
        storeEnds(31, 1);
        storeEnds(-32, 0);
        storeEnds(MIN, 0);
        storeEnds(0, MIN);
        storeEnds(MAX, 0);
        storeEnds(0, MAX);
        Machine m = new Machine("9: a neighbour's word").put(Machine.STORE, 1, 0, 0).at(9).jump(9);
        m.at(5).set(1, 8).jump(0).spawn(9, 0, 0).spawn(5, 32, 1).spawn(9, 0, 2).run(3, 3);
        m.free(1).word(2, 0, 0).spawn(5, -1, 1).run(3, 3).free(1).word(0, 31, 0);
    }

    /** "Arithmetic wraps as in Java.", for rb + n of 9 */
    private static void storeWraps() {
        storeIs(MIN, MIN, 0);
        storeIs(MAX, MIN + 1, 0);
        storeIs(MAX, MIN + 32, 31);
        storeIs(MIN, MIN + 31, 31);
        storeIs(MAX, MIN + 2, 1);
        storeEnds(MAX, MIN);
        storeEnds(MAX, MIN + 33);
        storeEnds(MIN, MIN + 32);
        storeEnds(MIN, MAX);
        storeEnds(MAX, 1);
        storeEnds(MAX, MAX);
    }

    /** "After an instruction that does not jump, wait or end the spot is 1 more.": behind 63 it is 64. */
    private static void spotBehindTheLast() {
        Machine m = new Machine("behind 63").at(62).put(Machine.OUT).put(Machine.YIELD);
        m.spawn(62, 4, 0).run(1, 1).ready(0, 64).output(4).executed(2).run(80, 1).free(0).executed(3);
        Machine c = Machine.withChild("behind 63, with a parent").jump(63).at(63).put(Machine.OUT);
        c.spawn(0, 4, 0).run(6, 6).output(4).ended(1, -4).parent(1, 0);
    }

    /** "At a spot that is not from 0 to 63": 0 and 63 are no such spots. */
    private static void jumpInside() {
        Machine m = new Machine("jump to 63 and 0").put(Machine.OUT).jump(63).at(63).jump(0);
        m.spawn(63, 6, 0).run(2, 2).ready(0, 63).output(6, 6).executed(6);
    }

    /** "At a spot that is not from 0 to 63 it ends with the result -4." */
    private static void jumpOutside() {
        for (int far : new int[] {-1, 64, 65, 128, -64, MIN, MAX}) {
            Machine m = Machine.withChild("jump to " + far).put(Machine.YIELD).put(Machine.JUMP_IF_NOT_ZERO, 0, 0, far);
            m.spawn(0, 5, 0).run(4, 4).ended(1, -4).parent(1, 0);
            Machine z = Machine.withChild("jump if zero to " + far).put(Machine.JUMP_IF_ZERO, 3, 0, far);
            z.spawn(0, 5, 0).run(2, 2).ready(1, far).executed(6).run(2, 2).ended(1, -4).executed(8);
            Machine j = Machine.withChild("jump at once to " + far).put(Machine.JUMP, 0, 0, far);
            j.spawn(0, 5, 0).run(2, 2).ready(1, far).run(2, 2).ended(1, -4);
        }
    }

    /** A jump outside that is not taken leads to the next spot. */
    private static void jumpOutsideThatIsNotTaken() {
        for (int far : new int[] {-1, 64, MIN, MAX}) {
            Machine m = new Machine("no jump to " + far).put(Machine.JUMP_IF_ZERO, 0, 0, far);
            m.put(Machine.JUMP_IF_NOT_ZERO, 1, 0, far).put(Machine.YIELD);
            m.spawn(0, 5, 0).run(1, 1).ready(0, 3).executed(3);
        }
    }

    /** "At a spot that is not from 0 to 63 it ends", for one that is spawned there: in its first turn. */
    private static void spawnedOutside() {
        for (int far : new int[] {-1, 64, 65, MIN, MAX}) {
            Machine m = new Machine("spawned at " + far).spawn(far, far, 0).ready(0, far).registers(0, far, 0, 0, 0).executed(0);
            m.run(80, 1).free(0).executed(1).run(80, 0).executed(1);
        }
    }
}
