/** The examples of README.md, call by call. */
public final class ReadmeTest {
    public static void main(String[] args) {
        oneProcess();
        twoProcessesAndAPipe();
        Checks.close();
    }

    private static void oneProcess() {
        TeachingKernel kernel = new TeachingKernel();
        Checks.due("one: code(0)", kernel.code(0, 6, 2), true);
        Checks.due("one: code(1)", kernel.code(1, 21, 0), true);
        Checks.due("one: code(2)", kernel.code(2, 0, 0), true);
        Checks.due("one: spawn", kernel.spawn(0, 40), 0);
        Checks.due("one: run", kernel.run(80), 1);
        Checks.due("one: output", kernel.output(0), 42);
    }

    private static void twoProcessesAndAPipe() {
        TeachingKernel kernel = new TeachingKernel();
        Checks.due("two: code(0)", kernel.code(0, 15 + 32 * 1 + 128 * 2, 0), true);
        Checks.due("two: code(1)", kernel.code(1, 13 + 32 * 3, 0), true);
        Checks.due("two: code(2)", kernel.code(2, 6 + 32 * 3, 1), true);
        Checks.due("two: code(3)", kernel.code(3, 10 + 32 * 3, 10), true);
        Checks.due("two: code(4)", kernel.code(4, 16 + 32 * 3 + 128 * 1, 0), true);
        Checks.due("two: code(5)", kernel.code(5, 21 + 32 * 3, 0), true);
        Checks.due("two: code(6)", kernel.code(6, 14 + 32 * 1 + 128 * 2, 0), true);
        Checks.due("two: code(7)", kernel.code(7, 21 + 32 * 1, 0), true);
        Checks.due("two: code(8)", kernel.code(8, 0, 0), true);
        Checks.due("two: code(10)", kernel.code(10, 6, 1), true);
        Checks.due("two: code(11)", kernel.code(11, 17 + 128 * 2, 0), true);
        Checks.due("two: code(12)", kernel.code(12, 0 + 32 * 3, 0), true);
        Checks.due("two: spawn", kernel.spawn(0, 7), 0);
        Checks.due("two: run(3)", kernel.run(3), 3);
        Checks.due("two: state(0)", kernel.state(0), TeachingKernel.WAITING);
        Checks.due("two: spot(0)", kernel.spot(0), 4);
        Checks.due("two: parent(1)", kernel.parent(1), 0);
        Checks.due("two: run(1)", kernel.run(1), 1);
        Checks.due("two: state(1)", kernel.state(1), TeachingKernel.ENDED);
        Checks.due("two: pipe(0)", kernel.pipe(0), 1);
        Checks.due("two: run(80)", kernel.run(80), 2);
        Checks.due("two: printed", kernel.printed(), 2);
        Checks.due("two: output(0)", kernel.output(0), 8);
        Checks.due("two: output(1)", kernel.output(1), 0);
        Checks.due("two: executed", kernel.executed(), 14L);
        Checks.due("two: the last run", kernel.run(80), 0);
    }
}
