/** Promises 1 to 5 and 24: a new object, and the two rows of bytes. */
public final class BytesTest {
    private static final Check check = new Check("BytesTest");

    public static void main(String[] args) {
        newObject();
        giveBytes();
        cutAndPoke();
        turnBytes();
        check.end();
    }

    private static void newObject() {
        GuardForge x = new GuardForge();
        check.same("NONE", GuardForge.NONE, -1);
        int[] due = {0, 1, 16, 1, 1, -1, -1, -1, 0, 0, 0, 0, -1, 0, -1, -1};
        for (int which = 0; which < due.length; which++) {
            check.same("new: lookAt(" + which + ")", x.lookAt(which), due[which]);
        }
        check.same("new: byteOf(0, true)", x.byteOf(0, true), -1);
        check.same("new: byteOf(0, false)", x.byteOf(0, false), -1);
        for (int c = 0; c < 16; c++) {
            check.same("new: wayOf(0, " + c + ")", x.wayOf(0, c), 0);
            check.same("new: letterOf(" + c + ", 0)", x.letterOf(c, 0), c);
            for (int i = 0; i < 3; i++) {
                int due2 = i < c % 4 ? Integer.MIN_VALUE : 0;
                check.same("new: letterOf(" + c + ", " + (i + 1) + ")", x.letterOf(c, i + 1), due2);
            }
            check.same("new: watchCall(" + c + ")", x.watchCall(c, 5, 6, 7), 0);
        }
        check.same("new: endOf(0)", x.endOf(0), -1);
        check.same("new: traceAt(0, 0)", x.traceAt(0, 0), 0);
        check.same("new: counterOf(0, true)", x.counterOf(0, true), -1);
        check.same("new: counterOf(0, false)", x.counterOf(0, false), -1);
        check.same("new: saveProgram", x.saveProgram(false), -1);
        check.same("new: saveProgram forged", x.saveProgram(true), -1);
        check.same("new: forgeIt", x.forgeIt(), -1);
        check.same("new: certifyIt", x.certifyIt(false), -1);
        check.same("new: runIt", x.runIt(false, 10), -1);
        check.same("new: functionOf", x.functionOf(false, 0, 0), -1);
        check.same("new: codeOf", x.codeOf(false, 0, 0, 2), 0);
        check.same("new: mayOf", x.mayOf(false, 0, 0), 0);
    }

    private static void giveBytes() {
        GuardForge x = new GuardForge();
        check.same("giveBytes n 0", x.giveBytes(1, 0), false);
        check.same("giveBytes n 9", x.giveBytes(1, 9), false);
        check.same("giveBytes n -1", x.giveBytes(1, -1), false);
        check.same("giveBytes n min", x.giveBytes(1, Integer.MIN_VALUE), false);
        check.same("giveBytes n max", x.giveBytes(1, Integer.MAX_VALUE), false);
        check.same("count", x.lookAt(9), 0);
        for (int n = 1; n <= 8; n++) {
            check.same("giveBytes n " + n, x.giveBytes(0xF1E2D3C4B5A69788L, n), true);
        }
        check.same("count", x.lookAt(9), 36);
        int[] lowest = {0x88, 0x97, 0xA6, 0xB5, 0xC4, 0xD3, 0xE2, 0xF1};
        int k = 0;
        for (int n = 1; n <= 8; n++) {
            for (int j = n - 1; j >= 0; j--) {
                check.same("byteOf " + k, x.byteOf(k, true), lowest[j]);
                k++;
            }
        }
        check.same("byteOf 36", x.byteOf(36, true), -1);
        check.same("byteOf -1", x.byteOf(-1, true), -1);
        fillUp();
    }

    private static void fillUp() {
        // The room of 8192 bytes can't be filled in 512 calls; this program keeps its word beyond these, too.
        GuardForge x = new GuardForge();
        Check.program(x, longProgram());
        check.same("saved", x.saveProgram(false), 8188);
        x.turnBytes();
        check.same("turned", x.lookAt(9), 8188);
        check.same("no room for 5", x.giveBytes(-1, 5), false);
        check.same("still", x.lookAt(9), 8188);
        check.same("room for 4", x.giveBytes(0x01020304, 4), true);
        check.same("full", x.lookAt(9), 8192);
        check.same("the last one", x.byteOf(8191, true), 4);
        check.same("none behind", x.byteOf(8192, true), -1);
        check.same("no room", x.giveBytes(-1, 1), false);
        check.same("poke the last", x.pokeByte(8191, 9), true);
        check.same("poke behind", x.pokeByte(8192, 9), false);
        check.same("poked", x.byteOf(8191, true), 9);
    }

    /** Seven functions, 8188 bytes: 6 for each push and pop, and what is left over as jumps to the next one. */
    private static byte[] longProgram() {
        byte[][] functions = new byte[7][];
        for (int f = 0; f < 7; f++) {
            int left = 8184 / 7 + (f < 8184 % 7 ? 1 : 0) - 9;
            StringBuilder words = new StringBuilder();
            int at = 0;
            for (; left >= 6; left -= 6) {
                words.append("push 7, pop, ");
                at += 2;
            }
            if (left >= 3) {
                words.append("jump ").append(at + 1).append(", ");
                left -= 3;
            }
            functions[f] = Build.function(0, 0, 0, 0, words + Build.times(left, "return", "return"));
        }
        return Build.program(functions);
    }

    private static void cutAndPoke() {
        GuardForge x = new GuardForge();
        check.same("cut 0 of none", x.cutBytes(0), true);
        check.same("cut 1 of none", x.cutBytes(1), false);
        check.same("poke of none", x.pokeByte(0, 1), false);
        x.giveBytes(0x0102030405L, 5);
        check.same("cut 6 of 5", x.cutBytes(6), false);
        check.same("cut -1", x.cutBytes(-1), false);
        check.same("five", x.lookAt(9), 5);
        check.same("cut 5 of 5", x.cutBytes(5), true);
        check.same("five still", x.lookAt(9), 5);
        check.same("cut 2", x.cutBytes(2), true);
        check.same("two", x.lookAt(9), 2);
        check.same("byte 1", x.byteOf(1, true), 2);
        check.same("byte 2 is gone", x.byteOf(2, true), -1);
        check.same("poke 2", x.pokeByte(2, 7), false);
        check.same("poke -1", x.pokeByte(-1, 7), false);
        check.same("poke 0", x.pokeByte(0, 0x1FF), true);
        check.same("lowest eight bits", x.byteOf(0, true), 255);
        check.same("poke minus", x.pokeByte(1, -2), true);
        check.same("lowest eight bits of -2", x.byteOf(1, true), 254);
        x.giveBytes(9, 1);
        check.same("comes behind the cut", x.byteOf(2, true), 9);
    }

    private static void turnBytes() {
        GuardForge x = new GuardForge();
        x.giveBytes(77, 1);
        x.turnBytes();
        check.same("none were written", x.lookAt(9), 0);
        byte[] row = Build.program(Build.function(0, 0, 0, 0, "return"));
        check.same("load", Check.program(x, row), 0);
        check.same("save", x.saveProgram(false), row.length);
        check.same("written", x.lookAt(10), row.length);
        x.cutBytes(0);
        x.giveBytes(5, 1);
        x.turnBytes();
        check.same("turned", x.lookAt(9), row.length);
        check.same("written stay", x.lookAt(10), row.length);
        for (int k = 0; k < row.length; k++) {
            check.same("turned byte " + k, x.byteOf(k, true), row[k] & 255);
            check.same("written byte " + k, x.byteOf(k, false), row[k] & 255);
        }
        check.same("behind the written", x.byteOf(row.length, false), -1);
        check.same("ahead of the written", x.byteOf(-1, false), -1);
        check.same("poke", x.pokeByte(0, 1), true);
        check.same("written ones are others", x.byteOf(0, false), 71);
    }
}
