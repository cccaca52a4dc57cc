import java.util.Random;

/** Promises 1 to 17 on many drawn runs of calls, each beside the model; the seeds are fixed. */
public final class ModelTest {
    private static final int RUNS = 20000;
    private static final int MOST_CALLS = 512;
    private static final int[] EDGES = {Integer.MIN_VALUE, -1000, -4, -3, -2, -1, 64, 512, 1 << 30, Integer.MAX_VALUE};
    private static final int[] SYSTEM = {13, 13, 14, 15, 15, 16, 16, 17, 17, 18, 19, 20, 24};
    private static final int[] MEMORY = {1, 6, 8, 9, 9, 9, 9, 9, 9, 11, 13, 13, 20, 22, 23};

    private final Random random;
    private final String name;
    private final boolean lively;
    private final boolean memory;
    private final TeachingKernel kernel = new TeachingKernel();
    private final Model model = new Model();
    private int calls = 0;

    private ModelTest(int seed) {
        random = new Random(seed);
        name = "seed " + seed + ", call ";
        lively = seed % 2 == 0;
        memory = seed % 4 == 1;
    }

    public static void main(String[] args) {
        int[] executed = new int[3];
        for (int seed = 0; seed < RUNS && Checks.wrong() < 20; seed++) {
            ModelTest test = new ModelTest(seed);
            test.drawAll();
            executed[test.kernel.executed() > 300 ? 2 : test.kernel.executed() > 30 ? 1 : 0]++;
        }
        System.out.println("runs with up to 30, up to 300, more instructions: "
            + executed[0] + ", " + executed[1] + ", " + executed[2]);
        Checks.close();
    }

    private void due(String call, long got, long want) {
        calls++;
        Checks.due(name + calls + ": " + call, got, want);
    }

    private void due(String call, boolean got, boolean want) {
        due(call, got ? 1L : 0L, want ? 1L : 0L);
    }

    private void drawAll() {
        int length = 8 + random.nextInt(57);
        for (int i = 0; i < 64; i++) {
            if (i < length) {
                code(i, length);
            } else {
                // The document does not say the a of the ENDs that are there at first, so all of them are replaced.
                put(i, 32 * random.nextInt(16), draw(-2, 5));
            }
        }
        while (calls < MOST_CALLS - 40) {
            act(length);
            for (int i = random.nextInt(12); i > 0; i--) {
                look();
            }
        }
        while (calls < MOST_CALLS) {
            look();
        }
    }

    /** From low to high, but now and then far off. */
    private int draw(int low, int high) {
        if (random.nextInt(24) == 0) {
            return EDGES[random.nextInt(EDGES.length)];
        }
        return low + random.nextInt(high - low + 1);
    }

    private void code(int i, int length) {
        int[] ops = memory ? MEMORY : SYSTEM;
        int op = random.nextInt(memory ? 24 : 3) == 0 ? random.nextInt(25) : ops[random.nextInt(ops.length)];
        if ((lively || memory) && op == 0 || memory && i == length - 1) {
            op = 11;
        }
        boolean jump = op >= 10 && op <= 12;
        boolean place = memory && (op == 8 || op == 9);
        int n = jump ? draw(0, length - 1) : place ? draw(0, 31) : draw(-2, 5);
        put(i, op + 32 * registers(), n);
        if (random.nextInt(40) == 0) {
            put(i, draw(-5, 520), n);
        }
    }

    private void put(int i, int what, int n) {
        due("code(" + i + ", " + what + ", " + n + ")", kernel.code(i, what, n), model.code(i, what, n));
    }

    /** a + 4 * b; for runs on memory r3 mostly stays 0 and is b, so that most memory words are there. */
    private int registers() {
        return memory && random.nextInt(30) != 0 ? random.nextInt(3) + 4 * 3 : random.nextInt(16);
    }

    private void act(int length) {
        switch (random.nextInt(12)) {
            case 0, 1, 2 -> {
                int spot = draw(0, length - 1);
                int x = draw(-1, 5);
                due("spawn(" + spot + ", " + x + ")", kernel.spawn(spot, x), model.spawn(spot, x));
            }
            case 3 -> {
                int p = draw(-1, 6);
                int result = draw(-5, 5);
                due("kill(" + p + ", " + result + ")", kernel.kill(p, result), model.kill(p, result));
            }
            case 4 -> {
                int k = draw(-1, 3);
                due("level(" + k + ")", kernel.level(k), model.level(k));
            }
            case 5 -> code(draw(0, length - 1), length);
            default -> {
                int n = random.nextInt(8) == 0 ? draw(-1, 90) : draw(1, 4);
                due("run(" + n + ")", kernel.run(n), model.run(n));
            }
        }
    }

    private void look() {
        int p = draw(0, 5);
        int i = draw(0, 3);
        int w = draw(0, random.nextBoolean() ? 31 : 9);
        switch (memory && random.nextBoolean() ? 6 : random.nextInt(12)) {
            case 0, 1 -> due("state(" + p + ")", kernel.state(p), model.state(p));
            case 2 -> due("spot(" + p + ")", kernel.spot(p), model.spot(p));
            case 3 -> due("parent(" + p + ")", kernel.parent(p), model.parent(p));
            case 4, 5 -> due("register(" + p + ", " + i + ")", kernel.register(p, i), model.register(p, i));
            case 6 -> due("word(" + p + ", " + w + ")", kernel.word(p, w), model.word(p, w));
            case 7 -> due("descriptor(" + p + ", " + i + ")", kernel.descriptor(p, i), model.descriptor(p, i));
            case 8 -> due("pipe(" + i + ")", kernel.pipe(i), model.pipe(i));
            case 9 -> due("executed()", kernel.executed(), model.executed());
            case 10 -> due("printed()", kernel.printed(), model.printed());
            default -> due("output(" + w + ")", kernel.output(w), model.output(w));
        }
    }
}
