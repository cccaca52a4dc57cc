/** Promise 1: what a new object answers. */
public final class NewObjectTest {
    public static void main(String[] args) {
        Machine m = new Machine("new object");
        for (int p = 0; p < 6; p++) {
            m.state(p, TeachingKernel.FREE).spot(p, TeachingKernel.BAD).parent(p, TeachingKernel.BAD);
            m.registers(p, 0, 0, 0, 0).descriptors(p, 0, 0, 0, 0).word(p, 0, 0).word(p, 31, 0);
            m.kill(p, 1, false);
        }
        m.pipe(0, -1).pipe(1, -1).pipe(2, -1).executed(0).output();
        for (int k = 0; k < 32; k++) {
            Checks.due("output(" + k + ")", m.kernel.output(k), 0);
        }
        m.run(80, 0).executed(0);
        Checks.close();
    }
}
