/** Promises 7, 8, 21, 23 and 25: reading programs, faults 1 to 4, and writing them. */
public final class ProgramTest {
    private static final Check check = new Check("ProgramTest");

    public static void main(String[] args) {
        whatIsRead();
        cutAnywhere();
        begin();
        heads();
        instructions();
        handlers();
        bytesLeft();
        whatLoadingChanges();
        saving();
        wrongNumbers();
        check.end();
    }

    private static void fault(String name, byte[] row, int fault, int place) {
        GuardForge x = new GuardForge();
        check.programFault(x, name, row, fault, place);
        check.same("no program behind " + name, x.lookAt(5), fault == 0 ? row[3] : -1);
    }

    /** The bytes with another one at a place. */
    private static byte[] poked(byte[] row, int k, int... b) {
        byte[] other = row.clone();
        for (int j = 0; j < b.length; j++) {
            other[k + j] = (byte) b[j];
        }
        return other;
    }

    private static byte[] sample() {
        return Build.program(
                Build.function(0, 3, 4, 1, "push -2, store 1, load 1, push 7, call 1, host 6, pop, push 1, ifnot 0, "
                        + "load 1, return", Build.handler(1, 6, 9, -3), Build.handler(0, 11, 0)),
                Build.function(2, 2, 0, 1, "load 0, load 1, guard 14, host 14, return"),
                Build.function(4, 12, 0x0C04, 2, "load 2, return", Build.handler(0, 1, 0, 5)));
    }

    private static void whatIsRead() {
        byte[] row = Build.program(
                Build.function(0, 3, 4, 1, "push -2, store 1, load 1, push 7, call 1, host 5, if 0, jump 8, load 1, return",
                        Build.handler(4, 5, 6, -3), Build.handler(0, 10, 6)),
                Build.function(2, 2, 0, 1, "load 0, load 1, guard 14, host 14, return"),
                Build.function(4, 12, 0x0C04, 2, "load 2, return"));
        GuardForge x = new GuardForge();
        check.same("load", Check.program(x, row), 0);
        check.same("fault", x.lookAt(11), 0);
        check.same("place", x.lookAt(12), -1);
        check.same("functions", x.lookAt(5), 3);
        check.same("instructions", x.lookAt(6), 17);
        check.same("forged", x.lookAt(7), -1);
        int[][] functions = {{0, 3, 1, 10, 2, -1}, {2, 2, 1, 5, 0, -1}, {4, 12, 2, 2, 0, -1}};
        for (int f = 0; f < 3; f++) {
            for (int what = 0; what < 6; what++) {
                check.same("functionOf " + f + " " + what, x.functionOf(false, f, what), functions[f][what]);
            }
        }
        int[][] code = {{0, -2}, {5, 1}, {4, 1}, {0, 7}, {25, 1}, {26, 5}, {19, 0}, {18, 8}, {4, 1}, {27, 0}};
        for (int i = 0; i < code.length; i++) {
            check.same("codeOf " + i + " 0", x.codeOf(false, 0, i, 0), code[i][0]);
            check.same("codeOf " + i + " 1", x.codeOf(false, 0, i, 1), code[i][1]);
        }
        check.same("guard", x.codeOf(false, 1, 2, 0), 29);
        check.same("its call", x.codeOf(false, 1, 2, 1), 14);
    }

    /** Wherever the bytes end too early, that is fault 1, and its place is how many there are. */
    private static void cutAnywhere() {
        byte[] row = sample();
        GuardForge x = new GuardForge();
        for (int n = 0; n < row.length; n++) {
            byte[] part = new byte[n];
            System.arraycopy(row, 0, part, 0, n);
            if (n % 40 == 0) {
                x = new GuardForge();
            }
            check.programFault(x, "the first " + n, part, 1, n);
        }
    }

    private static void begin() {
        byte[] row = Build.main("push 1, return");
        for (int k = 0; k < 3; k++) {
            fault("byte " + k + " is another", poked(row, k, row[k] + 1), 2, k);
            fault("byte " + k + " is 0", poked(row, k, 0), 2, k);
        }
        fault("a first byte alone", new byte[] {70}, 2, 0);
        fault("two bytes", new byte[] {71, 71}, 2, 1);
        fault("no functions", poked(row, 3, 0), 3, 3);
        fault("13 functions", poked(row, 3, 13), 3, 3);
        fault("255 functions", poked(row, 3, 255), 3, 3);
        byte[][] twelve = new byte[12][];
        for (int f = 0; f < 12; f++) {
            twelve[f] = Build.function(0, 0, 0, 0, "return");
        }
        fault("12 functions", Build.program(twelve), 0, -1);
    }

    private static void heads() {
        byte[] one = Build.program(Build.function(0, 2, 3, 1, "push 1, return"));
        fault("params of function 0", poked(one, 4, 1), 3, 4);
        fault("13 locals", poked(one, 5, 13), 3, 5);
        fault("a bit above the locals", poked(one, 6, 0, 4), 3, 6);
        fault("a bit far above the locals", poked(one, 6, 128, 0), 3, 6);
        fault("bits of both locals", poked(one, 6, 0, 3), 0, -1);
        fault("result row of function 0", poked(one, 8, 2), 3, 8);
        fault("no instructions", poked(one, 9, 0, 0), 3, 9);
        fault("401 instructions", poked(one, 9, 1, 145), 3, 9);
        fault("65535 instructions", poked(one, 9, 255, 255), 3, 9);
        byte[] two = Build.program(Build.function(0, 0, 0, 0, "return"),
                Build.function(4, 4, 15, 2, "load 3, return"));
        fault("four params, rows", two, 0, -1);
        int at = 4 + 9;
        fault("five params", poked(two, at, 5), 3, at);
        fault("fewer locals than params", poked(two, at + 1, 3), 3, at + 1);
        fault("a bit above", poked(two, at + 2, 0, 16), 3, at + 2);
        fault("result 3", poked(two, at + 4, 3), 3, at + 4);
        fault("12 locals with bits", Build.program(Build.function(0, 12, 0x0FFF, 0, "return")), 0, -1);
        fault("12 locals with 13 bits", Build.program(Build.function(0, 12, 0x1FFF, 0, "return")), 3, 6);
        fault("400 instructions", Build.main(Build.times(199, "push 1, pop", "push 1, return")), 0, -1);
    }

    private static void instructions() {
        fault("instruction 30", poked(Build.main("push 1, return"), 16, 30), 3, 16);
        fault("instruction 255", poked(Build.main("push 1, return"), 11, 255), 3, 11);
        fault("local 6 of 6", Build.main("load 6, return"), 3, 12);
        fault("local 255", Build.main("push 1, store 255, return"), 3, 17);
        fault("a local of none", Build.program(Build.function(0, 0, 0, 1, "load 0, return")), 3, 12);
        fault("function 1 of 1", Build.main("call 1, return"), 3, 12);
        fault("function 0 of 1", Build.program(Build.function(0, 0, 0, 0, "call 0, return")), 0, -1);
        fault("a function further on", Build.program(Build.function(0, 0, 0, 0, "call 1, return"),
                Build.function(0, 0, 0, 0, "return")), 0, -1);
        fault("call outside 16", Build.main("host 16, return"), 3, 12);
        fault("call outside 15", Build.main("push 1, push 2, push 3, guard 15, host 15, return"), 0, -1);
        fault("guard 16", Build.main("guard 16, return"), 3, 12);
        fault("target 2 of 2", Build.main("jump 2, return"), 3, 12);
        fault("target 1 of 2", Build.program(Build.function(0, 0, 0, 0, "jump 1, return")), 0, -1);
        fault("target 65535", Build.main("if 65535, return"), 3, 12);
        fault("the first of two faults", Build.main("jump 9, ifnot 9, host 77"), 3, 12);
        fault("reading is ahead of verifying", Build.main("pop, host 16, return"), 3, 13);
    }

    private static void handlers() {
        byte[] row = Build.main("push 1, return", Build.handler(0, 2, 1, 7), Build.handler(1, 2, 1));
        int at = 4 + 7 + 6;
        fault("handlers", row, 0, -1);
        fault("7 handlers", poked(row, at, 7), 3, at);
        fault("FROM is how many there are", poked(row, at + 1, 0, 2), 3, at + 1);
        fault("FROM 256", poked(row, at + 1, 1, 0), 3, at + 1);
        fault("TO is FROM", poked(row, at + 3, 0, 0), 3, at + 3);
        fault("TO above", poked(row, at + 3, 0, 3), 3, at + 3);
        fault("TARGET above", poked(row, at + 5, 0, 2), 3, at + 5);
        fault("neither 0 nor 1", poked(row, at + 7, 2), 3, at + 7);
        fault("neither 0 nor 1 at the end", poked(row, row.length - 1, 2), 3, row.length - 1);
        fault("second FROM", poked(row, at + 12, 255, 1), 3, at + 12);
        fault("any code to 1, then bytes end", poked(row, row.length - 1, 1), 1, row.length);
        fault("six handlers", Build.main("push 1, return", Build.handler(0, 1, 1), Build.handler(0, 1, 1),
                Build.handler(0, 1, 1), Build.handler(0, 1, 1), Build.handler(0, 1, 1), Build.handler(0, 1, 1)), 0, -1);
    }

    private static void bytesLeft() {
        byte[] row = Build.main("push 1, return");
        fault("one byte left", Build.join(row, new byte[1]), 4, row.length);
        fault("nine bytes left", Build.join(row, new byte[9]), 4, row.length);
        fault("bytes left are ahead of verifying", Build.join(Build.main("pop, return"), new byte[1]), 4,
                row.length - 4);
        fault("function count too small", poked(Build.program(Build.function(0, 0, 0, 0, "return"),
                Build.function(0, 0, 0, 0, "return")), 3, 1), 4, 13);
    }

    private static void whatLoadingChanges() {
        GuardForge x = new GuardForge();
        check.same("load", Check.program(x, Build.main("push 5, return")), 0);
        check.same("forge", x.forgeIt(), 0);
        check.same("run", x.runIt(false, 10), 0);
        check.programFault(x, "a fault", new byte[] {71, 70}, 1, 2);
        check.same("the program stays", x.codeOf(false, 0, 0, 1), 5);
        check.same("forged stays", x.lookAt(7), 2);
        check.same("the run stays", x.endOf(1), 5);
        check.programFault(x, "another fault", Build.main("pop, return"), 5, 0);
        check.same("the program stays", x.codeOf(false, 0, 0, 1), 5);
        check.same("forged stays", x.lookAt(7), 2);
        check.same("load again", Check.program(x, Build.main("push 6, push 7, add, return")), 0);
        check.same("fault is gone", x.lookAt(11), 0);
        check.same("place is gone", x.lookAt(12), -1);
        check.same("nothing is forged", x.lookAt(7), -1);
        check.same("nothing forged to run", x.runIt(true, 10), -1);
        check.same("no run", x.endOf(0), -1);
        check.same("the new one", x.lookAt(6), 4);
    }

    private static void saving() {
        GuardForge x = new GuardForge();
        byte[] row = Build.program(
                Build.function(0, 3, 4, 1, "push -2147483648, store 1, load 1, push 7, call 1, host 5, if 0, jump 8, "
                        + "load 1, return", Build.handler(4, 5, 6, -3), Build.handler(0, 10, 6)),
                Build.function(2, 2, 0, 1, "load 0, load 1, guard 14, host 14, return"),
                Build.function(4, 12, 0x0C04, 2, "load 2, return"));
        check.same("load", Check.program(x, row), 0);
        check.same("save", x.saveProgram(false), row.length);
        check.same("written", x.lookAt(10), row.length);
        for (int k = 0; k < row.length; k++) {
            check.same("written " + k, x.byteOf(k, false), row[k] & 255);
        }
        check.same("nothing forged to save", x.saveProgram(true), -1);
        check.same("written stay", x.lookAt(10), row.length);
        x.turnBytes();
        check.same("load what was saved", x.loadProgram(), 0);
        check.same("save it again", x.saveProgram(false), row.length);
    }

    private static void wrongNumbers() {
        GuardForge x = new GuardForge();
        check.same("load", Check.program(x, Build.main("push 1, push 2, add, return")), 0);
        int[] wrong = {-1, 1, 12, Integer.MIN_VALUE, Integer.MAX_VALUE};
        for (int f : wrong) {
            check.same("functionOf " + f, x.functionOf(false, f, 0), -1);
            check.same("codeOf function " + f, x.codeOf(false, f, 0, 1), 0);
            check.same("mayOf function " + f, x.mayOf(false, f, 0), 0);
        }
        for (int i : new int[] {-1, 4, 400, Integer.MIN_VALUE, Integer.MAX_VALUE}) {
            check.same("codeOf " + i, x.codeOf(false, 0, i, 2), 0);
            check.same("mayOf " + i, x.mayOf(false, 0, i), 0);
        }
        for (int what : new int[] {-1, 6, Integer.MIN_VALUE, Integer.MAX_VALUE}) {
            check.same("codeOf what " + what, x.codeOf(false, 0, 0, what), 0);
        }
        for (int what : new int[] {-1, 5, Integer.MIN_VALUE, Integer.MAX_VALUE}) {
            check.same("functionOf what " + what, x.functionOf(false, 0, what), -1);
        }
        for (int what = 0; what < 6; what++) {
            check.same("nothing forged: codeOf " + what, x.codeOf(true, 0, 0, what), 0);
            check.same("nothing forged: functionOf " + what, x.functionOf(true, 0, what), -1);
        }
        check.same("nothing forged: mayOf", x.mayOf(true, 0, 0), 0);
    }
}
