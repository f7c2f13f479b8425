import java.util.Arrays;

/**
 * Under "PROGRAMS", numbers from .. to and FAULTS 1 to 4 of bytes, and promises 7, 8, 21, 23: each sentence that names
 * a boundary case, one method each, the sentence ahead of it.
 */
public final class ProgramEdgesTest {
    private static final Check check = new Check("ProgramEdgesTest");
    private static final byte[] RETURN = Build.function(0, 0, 0, 0, "return");

    public static void main(String[] args) {
        firstThree();
        functions();
        params();
        locals();
        rowBits();
        results();
        instructions();
        operations();
        numbersOfLocals();
        numbersOfFunctions();
        numbersOfCalls();
        targets();
        handlers();
        rangesOfHandlers();
        targetsOfHandlers();
        codesOfHandlers();
        highestFirst();
        bytesEnd();
        bytesLeft();
        fromByteToByte();
        aheadOfVerifying();
        usedBefore();
        check.end();
    }

    private static int load(byte[] row) {
        return Check.program(new GuardForge(), row);
    }

    private static void right(String name, byte[] row) {
        check.programFault(new GuardForge(), name, row, 0, -1);
    }

    private static void fault(String name, byte[] row, int fault, int place) {
        GuardForge x = new GuardForge();
        check.programFault(x, name, row, fault, place);
        check.same("no program behind " + name, x.lookAt(5), -1);
    }

    private static byte[] poked(byte[] row, int place, int width, int value) {
        byte[] other = row.clone();
        System.arraycopy(Build.number(value, width), 0, other, place, width);
        return other;
    }

    /** A number is fault 3 at its place just if it is not from least to most, whatever comes of it else. */
    private static void range(String name, byte[] row, int place, int width, int least, int most) {
        int highest = (1 << 8 * width) - 1;
        int callsOfOne = row.length / 8 + 4;
        int calls = 0;
        GuardForge x = new GuardForge();
        for (int value = 0; value <= highest; value++) {
            boolean nearAnEdge = value <= 2 || Math.abs(value - least) <= 2 || Math.abs(value - most) <= 2
                    || value >= highest - 2 || value % 256 < 2 || (value & value - 1) == 0;
            if (width > 1 && !nearAnEdge) {
                continue;
            }
            calls += callsOfOne;
            if (calls > 512) {
                x = new GuardForge();
                calls = callsOfOne;
            }
            int fault = Check.program(x, poked(row, place, width, value));
            boolean told = fault == 3 && x.lookAt(12) == place;
            check.same(name + " " + value, told, value < least || value > most);
        }
    }

    /** "71, 70, 1" and "2: one of the first three is another one (its place)" */
    private static void firstThree() {
        byte[] row = Build.program(RETURN);
        int[] due = {71, 70, 1};
        for (int k = 0; k < 3; k++) {
            GuardForge x = new GuardForge();
            for (int b = 0; b < 256; b++) {
                if (b % 64 == 0) {
                    x = new GuardForge();
                }
                check.same("byte " + k + " is " + b, Check.program(x, poked(row, k, 1, b)), b == due[k] ? 0 : 2);
                check.same("place of " + b, x.lookAt(12), b == due[k] ? -1 : k);
            }
            // It is told as soon as it is there, and its lack as soon as it is not.
            fault("the first " + k, Arrays.copyOf(row, k), 1, k);
            fault("byte " + k + " is another, and the last", poked(Arrays.copyOf(row, k + 1), k, 1, 0), 2, k);
        }
        fault("two others", poked(poked(row, 2, 1, 2), 1, 1, 2), 2, 1);
    }

    /** "how many FUNCTIONS, 1 .. 12" */
    private static void functions() {
        range("functions", Build.program(RETURN), 3, 1, 1, 12);
        for (int n = 1; n <= 12; n++) {
            byte[][] all = new byte[n][];
            Arrays.fill(all, RETURN);
            GuardForge x = new GuardForge();
            check.programFault(x, n + " functions", Build.program(all), 0, -1);
            check.same("functions", x.lookAt(5), n);
            check.same("instructions", x.lookAt(6), n);
            check.same("functionOf the last", x.functionOf(false, n - 1, 3), 1);
            check.same("functionOf one behind", x.functionOf(false, n, 3), -1);
        }
    }

    /** "PARAMS, 0 .. 4 (0 for FUNCTION 0)" */
    private static void params() {
        byte[] row = Build.program(Build.function(0, 12, 0, 0, "return"), Build.function(0, 12, 0, 0, "return"),
                Build.function(0, 12, 0, 0, "return"));
        range("params of function 0", row, 4, 1, 0, 0);
        range("params of function 1", row, 4 + 9, 1, 0, 4);
        range("params of function 2", row, 4 + 18, 1, 0, 4);
        for (int n = 0; n <= 4; n++) {
            GuardForge x = new GuardForge();
            check.programFault(x, n + " params", Build.program(RETURN, Build.function(n, n, 0, 0, "return")), 0, -1);
            check.same("params", x.functionOf(false, 1, 0), n);
        }
    }

    /** "LOCALS, PARAMS .. 12" */
    private static void locals() {
        for (int n = 0; n <= 4; n++) {
            byte[] row = Build.program(RETURN, Build.function(n, 12, 0, 0, "return"));
            range("locals behind " + n + " params", row, 4 + 9 + 1, 1, n, 12);
        }
        range("locals of function 0", Build.program(Build.function(0, 12, 0, 0, "return")), 5, 1, 0, 12);
        for (int n = 0; n <= 12; n++) {
            GuardForge x = new GuardForge();
            check.programFault(x, n + " locals", Build.program(Build.function(0, n, 0, 0, "return")), 0, -1);
            check.same("locals", x.functionOf(false, 0, 1), n);
        }
    }

    /** "two bytes: bit l (2^l) is 1 if LOCAL l is a ROW, else it is an INT (0 above)" */
    private static void rowBits() {
        for (int n = 0; n <= 12; n++) {
            byte[] row = Build.program(Build.function(0, n, 0, 0, "return"));
            range("bits of " + n + " locals", row, 6, 2, 0, (1 << n) - 1);
        }
        for (int l = 0; l < 12; l++) {
            // LOCAL l alone is a ROW: SIZE can take it, and no other one.
            for (int m = 0; m < 12; m++) {
                byte[] row = Build.program(Build.function(0, 12, 1 << l, 1, "load " + m + ", size, return"));
                check.same("local " + m + " where " + l + " is a row", load(row), l == m ? 0 : 5);
            }
        }
        // Of PARAMS, too.
        for (int l = 0; l < 4; l++) {
            byte[] callee = Build.function(4, 4, 1 << l, 0, "return");
            StringBuilder words = new StringBuilder();
            for (int m = 0; m < 4; m++) {
                words.append(m == l ? "load 1, " : "load 0, ");
            }
            right("param " + l + " is a row", Build.program(Build.function(0, 2, 2, 0, words + "call 1, return"), callee));
        }
    }

    /** "RESULT: 0 none, 1 INT, 2 ROW (not of FUNCTION 0)" */
    private static void results() {
        byte[] row = Build.program(Build.function(0, 0, 0, 0, "push 1, throw"), Build.function(0, 0, 0, 0, "push 1, throw"));
        range("result of function 0", row, 8, 1, 0, 1);
        range("result of function 1", row, 4 + 14 + 4, 1, 0, 2);
        for (int result = 0; result <= 2; result++) {
            GuardForge x = new GuardForge();
            check.programFault(x, "result " + result, Build.program(RETURN, Build.function(0, 2, 2, result,
                    result == 0 ? "return" : "load " + (result - 1) + ", return")), 0, -1);
            check.same("result", x.functionOf(false, 1, 2), result);
        }
    }

    /** "two bytes: how many INSTRUCTIONS, 1 .. 400" */
    private static void instructions() {
        range("instructions", Build.program(RETURN), 9, 2, 1, 400);
        range("instructions of function 1", Build.program(RETURN, RETURN), 18, 2, 1, 400);
        for (int n : new int[] {1, 2, 255, 256, 257, 399, 400}) {
            GuardForge x = new GuardForge();
            check.programFault(x, n + " instructions", Build.program(Build.function(0, 0, 0, 0,
                    Build.times(n - 1, "return", "return"))), 0, -1);
            check.same("instructions", x.functionOf(false, 0, 3), n);
            check.same("the last one", x.codeOf(false, 0, n - 1, 0), 27);
            check.same("none behind", x.codeOf(false, 0, n, 0), 0);
            check.same("none behind: depth", x.codeOf(false, 0, n, 2), 0);
        }
        fault("401 instructions that are there", Build.program(Build.function(0, 0, 0, 0,
                Build.times(400, "return", "return"))), 3, 9);
        // Twelve functions with 400 of them, beyond the 512 calls that are promised.
        byte[][] all = new byte[12][];
        Arrays.fill(all, Build.function(0, 0, 0, 0, Build.times(399, "return", "return")));
        GuardForge x = new GuardForge();
        check.programFault(x, "12 * 400", Build.program(all), 0, -1);
        check.same("4800 instructions", x.lookAt(6), 4800);
        check.same("the last of all", x.codeOf(false, 11, 399, 0), 27);
    }

    /** fault 3: "an INSTRUCTION", 0 to 29 */
    private static void operations() {
        range("the first instruction", Build.program(Build.function(0, 0, 0, 0, "return, return")), 11, 1, 0, 29);
        range("the second instruction", Build.program(Build.function(0, 0, 0, 0, "return, return")), 12, 1, 0, 29);
        // Each of them, with what stands behind it, is read just so far.
        for (int op = 0; op <= 29; op++) {
            String word = Build.NAMES.get(op) + (Build.width(op) > 0 ? " 0" : "");
            GuardForge x = new GuardForge();
            byte[] row = Build.program(Build.function(0, 1, 0, 0, "return, " + word + ", return"));
            check.programFault(x, word, row, 0, -1);
            check.same("what it is", x.codeOf(false, 0, 1, 0), op);
            check.same("what stands behind", x.codeOf(false, 0, 1, 1), 0);
            check.same("the next one", x.codeOf(false, 0, 2, 0), 27);
            check.same("saved", x.saveProgram(false), row.length);
        }
    }

    /** fault 3: "LOCAL": of LOAD l and STORE l, below LOCALS */
    private static void numbersOfLocals() {
        for (int n = 0; n <= 12; n++) {
            for (String word : new String[] {"load 0", "store 0"}) {
                byte[] row = Build.program(Build.function(0, n, 0, 0, "return, " + word));
                range(word + " of " + n, row, 13, 1, 0, n - 1);
            }
        }
        // They are those of the FUNCTION in which it stands.
        fault("local of another function", Build.program(Build.function(0, 5, 0, 0, "return"),
                Build.function(0, 1, 0, 0, "return, load 1")), 3, 13 + 9);
    }

    /** fault 3: "FUNCTION": "f below the number of FUNCTIONS" */
    private static void numbersOfFunctions() {
        for (int n = 1; n <= 12; n++) {
            byte[][] all = new byte[n][];
            Arrays.fill(all, RETURN);
            all[0] = Build.function(0, 0, 0, 0, "return, call 0");
            range("call 0 of " + n, Build.program(all), 13, 1, 0, n - 1);
        }
        right("call of one further on", Build.program(Build.function(0, 0, 0, 0, "call 2, return"), RETURN, RETURN));
        // It is told where it stands, not when all is read.
        fault("call 2 of 2 ahead of another fault", Build.program(Build.function(0, 0, 0, 0, "call 2, host 16"), RETURN), 3, 12);
    }

    /** "HOST c (a byte, 0 .. 15)" and GUARD c, fault 3: "CALL OUTSIDE" */
    private static void numbersOfCalls() {
        range("host", Build.program(Build.function(0, 0, 0, 0, "return, host 0")), 13, 1, 0, 15);
        range("guard", Build.program(Build.function(0, 0, 0, 0, "return, guard 0")), 13, 1, 0, 15);
    }

    /** fault 3: "TARGET": "t below that of INSTRUCTIONS" */
    private static void targets() {
        for (String word : new String[] {"jump 0", "if 0", "ifnot 0"}) {
            for (int n : new int[] {2, 3, 256, 257, 400}) {
                byte[] row = Build.program(Build.function(0, 0, 0, 0, word.startsWith("jump")
                        ? Build.times(n - 1, "return", word) : Build.times(n - 2, "return", word + ", return")));
                range(word + " of " + n, row, 11 + n - (word.startsWith("jump") ? 1 : 2) + 1, 2, 0, n - 1);
            }
        }
        right("to itself", Build.program(Build.function(0, 0, 0, 0, "jump 0")));
        right("to the last", Build.program(Build.function(0, 0, 0, 0, "jump 399, " + Build.times(398, "return", "return"))));
        // They are those of the FUNCTION in which it stands.
        fault("target of another function", Build.program(Build.function(0, 0, 0, 0, "return, return, return"),
                Build.function(0, 0, 0, 0, "jump 1")), 3, 4 + 11 + 8);
    }

    /** "how many HANDLERS, 0 .. 6" */
    private static void handlers() {
        range("handlers", Build.program(RETURN), 12, 1, 0, 6);
        for (int n = 0; n <= 6; n++) {
            byte[][] all = new byte[n][];
            for (int h = 0; h < n; h++) {
                all[h] = h % 2 == 0 ? Build.handler(0, 2, 1) : Build.handler(1, 2, 1, h);
            }
            GuardForge x = new GuardForge();
            byte[] row = Build.program(Build.function(0, 0, 0, 0, "push 1, return", all), RETURN);
            check.programFault(x, n + " handlers", row, 0, -1);
            check.same("handlers", x.functionOf(false, 0, 4), n);
            check.same("handlers of the next function", x.functionOf(false, 1, 4), 0);
            check.same("saved", x.saveProgram(false), row.length);
        }
    }

    /** "FROM below the number of INSTRUCTIONS, TO above FROM and not above that number" */
    private static void rangesOfHandlers() {
        for (int n : new int[] {1, 2, 5, 255, 256, 400}) {
            String code = Build.times(n - 1, "return", "return");
            int at = 4 + 7 + n + 1;
            byte[] row = Build.program(Build.function(0, 0, 0, 0, code, Build.handler(0, n, 0)));
            range("FROM of " + n, row, at, 2, 0, n - 1);
            for (int from : new int[] {0, n / 2, n - 1}) {
                row = Build.program(Build.function(0, 0, 0, 0, code, Build.handler(from, n, 0)));
                range("TO of " + n + " behind " + from, row, at + 2, 2, from + 1, n);
            }
        }
    }

    /** "TARGET below it" */
    private static void targetsOfHandlers() {
        for (int n : new int[] {1, 2, 5, 255, 256, 400}) {
            byte[] row = Build.program(Build.function(0, 0, 0, 0, Build.times(n - 1, "return", "return"), Build.handler(0, n, 0)));
            range("TARGET of " + n, row, 4 + 7 + n + 1 + 4, 2, 0, n - 1);
        }
    }

    /** "0 for any code, or 1 and four bytes, the code" */
    private static void codesOfHandlers() {
        byte[] any = Build.program(Build.function(0, 0, 0, 0, "push 1, return", Build.handler(0, 1, 1)));
        range("0 or 1", any, any.length - 1, 1, 0, 1);
        fault("1, and no code", poked(any, any.length - 1, 1, 1), 1, any.length);
        byte[] one = Build.program(Build.function(0, 0, 0, 0, "push 1, return", Build.handler(0, 1, 1, 5)));
        fault("0, and a code", poked(one, one.length - 5, 1, 0), 4, one.length - 4);
        for (int code : new int[] {0, 1, -1, 255, 256, 65536, Integer.MIN_VALUE, Integer.MAX_VALUE}) {
            GuardForge x = new GuardForge();
            check.programFault(x, "code " + code, Build.program(Build.function(0, 0, 0, 1,
                    "push " + code + ", throw, return", Build.handler(0, 2, 2, code))), 0, -1);
            check.same("it is for this code", x.runIt(false, 10), 0);
            check.same("code", x.endOf(1), code);
            GuardForge y = new GuardForge();
            Check.program(y, Build.program(Build.function(0, 0, 0, 1,
                    "push " + (code ^ Integer.MIN_VALUE) + ", throw, return", Build.handler(0, 2, 2, code))));
            check.same("it is not for one with another highest bit", y.runIt(false, 10), 1);
            GuardForge z = new GuardForge();
            Check.program(z, Build.program(Build.function(0, 0, 0, 1,
                    "push " + (code ^ 1) + ", throw, return", Build.handler(0, 2, 2, code))));
            check.same("it is not for one with another lowest bit", z.runIt(false, 10), 1);
        }
    }

    /** "Numbers of two and four bytes have the highest first." */
    private static void highestFirst() {
        for (int k : new int[] {0, 1, -1, 255, 256, 0x01020304, 0x80000000, 0x7FFFFFFF, 0xFF000000, 0x00FF0000, 0x0000FF00}) {
            GuardForge x = new GuardForge();
            check.same("push", Check.program(x, Build.program(Build.function(0, 0, 0, 1, "push " + k + ", return"))), 0);
            check.same("what stands behind push", x.codeOf(false, 0, 0, 1), k);
            x.saveProgram(false);
            for (int j = 0; j < 4; j++) {
                check.same("written byte", x.byteOf(12 + j, false), k >> 24 - 8 * j & 255);
            }
        }
        GuardForge x = new GuardForge();
        Check.program(x, Build.program(Build.function(0, 0, 0, 0, Build.times(299, "return", "jump 258"))));
        check.same("target 258", x.codeOf(false, 0, 299, 1), 258);
        x.saveProgram(false);
        check.same("300 instructions: 1", x.byteOf(9, false), 1);
        check.same("300 instructions: 44", x.byteOf(10, false), 44);
        check.same("258: 1", x.byteOf(11 + 299 + 1, false), 1);
        check.same("258: 2", x.byteOf(11 + 299 + 2, false), 2);
    }

    /** "1: they end where one is to be read (how many there are)" */
    private static void bytesEnd() {
        byte[] row = Build.program(Build.function(0, 3, 4, 1, "push -2, store 1, load 1, push 7, call 1, host 6, pop, push 1, "
                + "ifnot 0, load 1, return", Build.handler(1, 6, 9, -3), Build.handler(0, 11, 0)),
                Build.function(2, 2, 0, 1, "load 0, load 1, guard 14, host 14, return"));
        for (int n = 0; n < row.length; n++) {
            fault("the first " + n, Arrays.copyOf(row, n), 1, n);
        }
        // A number of which only a part is there is none that can not be there.
        fault("half of 401 instructions", new byte[] {71, 70, 1, 1, 0, 0, 0, 0, 0, (byte) 255}, 1, 10);
        fault("half of the bits", new byte[] {71, 70, 1, 1, 0, 0, (byte) 255}, 1, 7);
        byte[] jump = Build.program(Build.function(0, 0, 0, 0, "jump 65535"));
        fault("half of a target", Arrays.copyOf(jump, 13), 1, 13);
    }

    /** "4: bytes are left behind (the place of the first one)" */
    private static void bytesLeft() {
        byte[] row = Build.program(RETURN, RETURN);
        for (int n : new int[] {1, 2, 8, 100}) {
            fault(n + " left", Arrays.copyOf(row, row.length + n), 4, row.length);
        }
        fault("a function more than was said", poked(row, 3, 1, 1), 4, 13);
        fault("another program", Build.join(row, row), 4, row.length);
    }

    /** "the first one, from byte to byte" */
    private static void fromByteToByte() {
        byte[] row = Build.program(Build.function(0, 0, 0, 0, "jump 0, host 0, return", Build.handler(0, 1, 0)));
        int[] places = {0, 1, 2, 3, 4, 5, 6, 8, 9, 11, 12, 14, 15, 17, 18, 20, 22, 24};
        // From the last one on, all that are further on are wrong, too: the first one is told.
        byte[] wrong = row.clone();
        for (int n = places.length - 1; n >= 0; n--) {
            int place = places[n];
            wrong[place] = (byte) 200;
            fault("wrong from " + place + " on", wrong, place < 3 ? 2 : 3, place);
            fault("wrong from " + place + " on, with bytes left", Build.join(wrong, new byte[1]), place < 3 ? 2 : 3, place);
            boolean oneByte = n == places.length - 1 || place < 6 || place == 8 || place > 9 && place != 12 && place < 18;
            byte[] ending = Arrays.copyOf(wrong, place + 1);
            fault("wrong, and the last one at " + place, ending, place < 3 ? 2 : oneByte ? 3 : 1, oneByte ? place : place + 1);
        }
    }

    /** "Then FUNCTION by FUNCTION it is VERIFIED" */
    private static void aheadOfVerifying() {
        byte[] popped = Build.function(0, 0, 0, 0, "pop, return");
        fault("verified", Build.program(popped, RETURN), 5, 0);
        fault("bytes end", Arrays.copyOf(Build.program(popped, RETURN), 20), 1, 20);
        fault("a wrong number in function 1", Build.program(popped, Build.function(0, 0, 0, 0, "host 16")), 3, 4 + 10 + 8);
        fault("bytes are left", Build.join(Build.program(popped), new byte[1]), 4, 14);
        fault("function 0 first", Build.program(popped, popped), 5, 0);
        fault("then function 1", Build.program(RETURN, popped, popped), 5, 512);
    }

    /** Promise 7: "that is the PROGRAM", whatever the object has read before */
    private static void usedBefore() {
        // Handlers and jumps go to 2, where the other program has a HOST that is GUARDED.
        byte[][] handlers = new byte[6][];
        Arrays.fill(handlers, Build.handler(0, 2, 2));
        String words = "push 1, jump 2, return, push 1, push 1, return";
        byte[] full = Build.program(Build.function(0, 12, 0x0FFF, 1, words, handlers), Build.function(1, 1, 0, 1, words, handlers),
                Build.function(2, 2, 0, 0, words, handlers));
        byte[] small = Build.program(Build.function(0, 0, 0, 0, "call 1, guard 0, host 0, return, add"),
                Build.function(0, 0, 0, 0, "push 7, guard 1, host 1, throw, push 2, return"));
        for (int rounds = 1; rounds <= 3; rounds++) {
            GuardForge x = new GuardForge();
            for (int n = 0; n < rounds; n++) {
                check.same("full", Check.program(x, full), 0);
                check.same("its handlers", x.functionOf(false, 1, 4), 6);
                x.forgeIt();
            }
            check.same("a fault", Check.program(x, Build.program(Build.function(0, 1, 0, 0, "load 0, if 4, load 0, add, return"))), 5);
            check.same("small", Check.program(x, small), 0);
            check.same("functions", x.lookAt(5), 2);
            check.same("instructions", x.lookAt(6), 11);
            check.same("handlers", x.functionOf(false, 0, 4), 0);
            check.same("handlers of 1", x.functionOf(false, 1, 4), 0);
            check.same("no function 2", x.functionOf(false, 2, 0), -1);
            check.same("depth of what is never come to", x.codeOf(false, 0, 4, 2), -1);
            check.same("rows of what is never come to", x.codeOf(false, 0, 4, 3), 0);
            check.same("guarded", x.codeOf(false, 0, 2, 4), 1);
            check.same("guarded in function 1", x.codeOf(false, 1, 2, 4), 1);
            check.same("nothing comes out of function 1", x.mayOf(false, 0, 1), 0);
            check.same("certified", x.certifyIt(false), 0);
            check.same("no handler of another program", x.runIt(false, 100), 1);
            check.same("the answer is the code", x.endOf(1), 0);
            check.same("saved", x.saveProgram(false), small.length);
        }
    }
}
