/** README.md, under "How to use it": the calls that stand there answer what stands behind them. */
public final class ReadmeTest {
    private static final Check check = new Check("ReadmeTest");

    public static void main(String[] args) {
        GuardForge x = new GuardForge();
        for (char c : "(node a (go 1 (arg 0 less 5) a))".toCharArray()) {
            check.same("giveBytes", x.giveBytes(c, 1), true);
        }
        check.same("loadPolicy", x.loadPolicy(), 0);
        check.same("cutBytes", x.cutBytes(0), true);
        check.same("giveBytes", x.giveBytes(0x47460101L, 4), true);
        check.same("giveBytes", x.giveBytes(0x00000000010003L, 7), true);
        check.same("giveBytes", x.giveBytes(0x0000000003L, 5), true);
        check.same("giveBytes", x.giveBytes(0x1A01L, 2), true);
        check.same("giveBytes", x.giveBytes(0x1BL, 1), true);
        check.same("giveBytes", x.giveBytes(0, 1), true);
        check.same("loadProgram", x.loadProgram(), 0);
        check.same("three instructions", x.functionOf(false, 0, 3), 3);
        check.same("certifyIt", x.certifyIt(false), 2);
        check.same("forgeIt", x.forgeIt(), 1);
        check.same("certifyIt of what was forged", x.certifyIt(true), 0);
        check.same("addAnswer", x.addAnswer(42), 1);
        check.same("runIt", x.runIt(true, 1000), 0);
        check.same("endOf", x.endOf(1), 42);
        check.same("traceAt", x.traceAt(0, 1), 3);
        check.same("saveProgram", x.saveProgram(true), 22);
        check.same("byteOf", x.byteOf(0, false), 71);
        check.end();
    }
}
