import java.nio.charset.StandardCharsets;
import java.util.Map;

/**
 * Promises 1 to 8 and 17 to 25, numbers that calls take: each sentence that names a boundary case, one method
 * each, the sentence ahead of it.
 */
public final class CallEdgesTest {
    private static final Check check = new Check("CallEdgesTest");
    private static final int LOW = Integer.MIN_VALUE;
    private static final int HIGH = Integer.MAX_VALUE;

    public static void main(String[] args) {
        newObject();
        oneToEightBytes();
        roomForBytes();
        cutBytes();
        pokeByte();
        turnBytes();
        writtenBytes();
        byteOf();
        resetWatch();
        watchCall();
        wayOf();
        letterOf();
        codeOf();
        whatStandsBehind();
        mayOf();
        functionOf();
        lookAt();
        faultOfTheLatestLoad();
        whatLoadPolicyChanges();
        whatLoadProgramChanges();
        fiveHundredTwelveCalls();
        check.end();
    }

    /**
     * Promise 1: "No BYTES; the POLICY is (node a (go any a)); no PROGRAM, nothing FORGED; no ANSWERS; no RUN; THE WATCH
     * is as at first."
     */
    private static void newObject() {
        Map<String, Long> made = Look.at(x -> { });
        Map<String, Long> loaded = Look.at(x -> {
            Check.policy(x, "(node a (go any a))");
            x.cutBytes(0);
        });
        check.same("as much", made.size(), loaded.size());
        for (Map.Entry<String, Long> one : loaded.entrySet()) {
            check.same("new: " + one.getKey(), made.getOrDefault(one.getKey(), -99L), one.getValue());
        }
        int[] due = {-1, 0, 1, 16, 1, 1, -1, -1, -1, 0, 0, 0, 0, -1, 0, -1};
        for (int which = -1; which <= 14; which++) {
            check.same("new: lookAt(" + which + ")", made.get("lookAt(" + which + ")"), due[which + 1]);
        }
        GuardForge x = new GuardForge();
        for (int c = 0; c < 16; c++) {
            for (int v : new int[] {LOW, -1, 0, 1, HIGH}) {
                check.same("any call leads on", x.watchCall(c, v, v, v), 0);
            }
        }
    }

    /** Promise 2: "n bytes of v, 1 .. 8, the highest first (of its lowest n)" */
    private static void oneToEightBytes() {
        long[] values = {0, 1, 127, 128, 255, 256, -1, -2, 0x0102030405060708L, 0x8081828384858687L, Long.MIN_VALUE, Long.MAX_VALUE};
        for (long v : values) {
            GuardForge x = new GuardForge();
            int count = 0;
            for (int n = 1; n <= 8; n++) {
                check.same("giveBytes(" + v + ", " + n + ")", x.giveBytes(v, n), true);
                for (int k = 0; k < n; k++) {
                    check.same("byte " + k + " of " + n, x.byteOf(count + k, true), (int) (v >> 8 * (n - 1 - k)) & 255);
                }
                count += n;
                check.same("how many", x.lookAt(9), count);
            }
        }
        GuardForge x = new GuardForge();
        for (int n : new int[] {0, 9, -1, 10, 16, 64, LOW, HIGH}) {
            check.same("giveBytes(1, " + n + ")", x.giveBytes(1, n), false);
            check.same("none came", x.lookAt(9), 0);
        }
    }

    /** Promise 2: "of which there are up to 8192 .. false if .. there is no room", beyond the 512 calls that are promised */
    private static void roomForBytes() {
        for (int there = 8180; there <= 8192; there++) {
            GuardForge x = new GuardForge();
            Check.give(x, new byte[there]);
            for (int n = 8; n >= 1; n--) {
                boolean fits = there + n <= 8192;
                check.same("giveBytes of " + n + " to " + there, x.giveBytes(-1, n), fits);
                check.same("how many", x.lookAt(9), fits ? there + n : there);
                check.same("cut again", x.cutBytes(there), true);
            }
        }
    }

    /** Promise 3: "There are the first n BYTES alone: true; false if there are fewer, or n is below 0." */
    private static void cutBytes() {
        for (int n = 0; n <= 6; n++) {
            GuardForge x = new GuardForge();
            x.giveBytes(0x0102030405L, 5);
            boolean right = n <= 5;
            check.same("cutBytes(" + n + ") of 5", x.cutBytes(n), right);
            check.same("how many", x.lookAt(9), right ? n : 5);
            for (int k = 0; k < 6; k++) {
                check.same("byte " + k, x.byteOf(k, true), k < (right ? n : 5) ? k + 1 : -1);
            }
            // What was cut off is gone, and the next ones come behind.
            x.giveBytes(9, 1);
            check.same("the next one", x.byteOf(right ? n : 5, true), 9);
            check.same("none behind", x.byteOf(right ? n + 1 : 6, true), -1);
        }
        GuardForge x = new GuardForge();
        check.same("none of none", x.cutBytes(0), true);
        for (int n : new int[] {1, -1, 8192, LOW, HIGH}) {
            check.same("cutBytes(" + n + ") of none", x.cutBytes(n), false);
        }
    }

    /** Promise 4: "BYTE k is b now (its lowest eight bits): true; false if there is none such." */
    private static void pokeByte() {
        GuardForge x = new GuardForge();
        check.same("none such", x.pokeByte(0, 1), false);
        x.giveBytes(0x0A0B0CL, 3);
        for (int k : new int[] {-1, 3, 4, 8191, 8192, LOW, HIGH}) {
            check.same("pokeByte(" + k + ", 1)", x.pokeByte(k, 1), false);
        }
        check.same("three still", x.lookAt(9), 3);
        for (int k = 0; k < 3; k++) {
            for (int b : new int[] {0, 1, 127, 128, 255, 256, 511, -1, -128, -129, LOW, HIGH}) {
                check.same("pokeByte(" + k + ", " + b + ")", x.pokeByte(k, b), true);
                check.same("it is", x.byteOf(k, true), b & 255);
            }
            check.same("the next stays", x.byteOf(k + 1, true), k < 2 ? 0x0B + k : -1);
        }
        // One that was cut off is none.
        x.cutBytes(2);
        check.same("cut off", x.pokeByte(2, 7), false);
        x.giveBytes(5, 1);
        check.same("another one", x.byteOf(2, true), 5);
    }

    /** Promise 5: "The BYTES become what the WRITTEN bytes are, which stay (none, if there are none)." */
    private static void turnBytes() {
        byte[] row = Build.program(Build.function(0, 0, 0, 0, "return"));
        for (int there : new int[] {0, 1, 12, 13, 14, 100}) {
            GuardForge x = new GuardForge();
            Check.give(x, new byte[there]);
            x.turnBytes();
            check.same("none", x.lookAt(9), 0);
            check.same("none written", x.lookAt(10), 0);
            check.same("no byte 0", x.byteOf(0, true), -1);
            Check.program(x, row);
            x.saveProgram(false);
            Check.give(x, new byte[there]);
            x.turnBytes();
            check.same("as many as written", x.lookAt(9), 13);
            check.same("written stay", x.lookAt(10), 13);
            for (int k = 0; k <= 13; k++) {
                check.same("byte " + k, x.byteOf(k, true), k < 13 ? row[k] & 255 : -1);
                check.same("written " + k, x.byteOf(k, false), k < 13 ? row[k] & 255 : -1);
            }
            // They are not the same ones.
            x.pokeByte(0, 9);
            x.cutBytes(5);
            check.same("written 0 stays", x.byteOf(0, false), 71);
            check.same("as many written", x.lookAt(10), 13);
            x.turnBytes();
            check.same("turned again", x.byteOf(0, true), 71);
            check.same("all again", x.lookAt(9), 13);
        }
    }

    /** Promise 8: "bytes are the WRITTEN ones: how many; NONE if there is none such" */
    private static void writtenBytes() {
        byte[] longer = Build.program(Build.function(0, 0, 0, 0, "host 0, push 7, host 0, return"));
        byte[] shorter = Build.program(Build.function(0, 0, 0, 0, "return"));
        GuardForge x = new GuardForge();
        Check.policy(x, "(counter c 1 (up 0))(node a (go any a))");
        check.same("none", x.saveProgram(false), -1);
        check.same("none forged", x.saveProgram(true), -1);
        check.same("none written", x.lookAt(10), 0);
        Check.program(x, longer);
        check.same("longer", x.saveProgram(false), longer.length);
        check.same("written", x.lookAt(10), longer.length);
        check.same("nothing forged", x.saveProgram(true), -1);
        check.same("written stay", x.lookAt(10), longer.length);
        check.same("forge", x.forgeIt(), 2);
        check.same("forging writes nothing", x.lookAt(10), longer.length);
        check.same("forged", x.saveProgram(true), longer.length + 4);
        check.same("a guard", x.byteOf(11, false), 29);
        check.same("the program itself", x.saveProgram(false), longer.length);
        check.same("no guard", x.byteOf(11, false), 26);
        Check.program(x, shorter);
        check.same("loading writes nothing", x.lookAt(10), longer.length);
        check.same("shorter", x.saveProgram(false), shorter.length);
        check.same("none behind", x.byteOf(shorter.length, false), -1);
        // The BYTES are others.
        x.cutBytes(0);
        check.same("written stay behind a cut", x.lookAt(10), shorter.length);
        check.same("the last one", x.byteOf(shorter.length - 1, false), 0);
    }

    /** Promise 24: "NONE if there is none" */
    private static void byteOf() {
        GuardForge x = new GuardForge();
        for (boolean into : new boolean[] {true, false}) {
            for (int k : new int[] {-1, 0, 1, 8191, 8192, LOW, HIGH}) {
                check.same("byteOf(" + k + ", " + into + ") of none", x.byteOf(k, into), -1);
            }
        }
        Check.program(x, Build.program(Build.function(0, 0, 0, 1, "push -1, return")));
        x.saveProgram(false);
        x.cutBytes(14);
        for (int k : new int[] {-1, 14, 15, LOW, HIGH}) {
            check.same("byteOf(" + k + ", true) of 14", x.byteOf(k, true), -1);
        }
        for (int k : new int[] {-1, 18, 19, LOW, HIGH}) {
            check.same("byteOf(" + k + ", false) of 18", x.byteOf(k, false), -1);
        }
        check.same("the first", x.byteOf(0, true), 71);
        check.same("255 is not below 0", x.byteOf(13, true), 255);
        check.same("255 of the written", x.byteOf(15, false), 255);
        check.same("the last of the written", x.byteOf(17, false), 0);
    }

    /** Promise 17: "THE WATCH is as at first." */
    private static void resetWatch() {
        GuardForge x = check.rightText(Build.named(6, "(counter ", " 15 (up any))") + "(node a (go 1 b))(node b (go any b))");
        for (int round = 0; round < 2; round++) {
            x.resetWatch();
            check.same("state", x.lookAt(13), 0);
            for (int k = 0; k < 6; k++) {
                check.same("counter " + k, x.counterOf(k, true), 0);
            }
            check.same("from START alone", x.watchCall(0, 0, 0, 0), -1);
            check.same("on", x.watchCall(1, 0, 0, 0), 1);
            check.same("on", x.watchCall(0, 0, 0, 0), 1);
            for (int k = 0; k < 6; k++) {
                check.same("counter " + k, x.counterOf(k, true), 2);
            }
        }
    }

    /** Promise 18: "its STATE then; NONE if there is no such number, or it goes nowhere (THE WATCH stays)" */
    private static void watchCall() {
        GuardForge x = check.rightText("(counter c 15 (up any))(node a (go 0 b))(node b (go 15 a))");
        for (int number : new int[] {-1, 16, 17, 31, 32, LOW, HIGH}) {
            check.same("watchCall(" + number + ")", x.watchCall(number, 0, 0, 0), -1);
        }
        for (int number = 1; number < 16; number++) {
            check.same("nowhere by " + number, x.watchCall(number, 0, 0, 0), -1);
        }
        check.same("state stays", x.lookAt(13), 0);
        check.same("counter stays", x.counterOf(0, true), 0);
        check.same("by 0", x.watchCall(0, 0, 0, 0), 1);
        for (int number = 0; number < 15; number++) {
            check.same("nowhere by " + number, x.watchCall(number, 0, 0, 0), -1);
        }
        check.same("state stays", x.lookAt(13), 1);
        check.same("counter stays", x.counterOf(0, true), 1);
        check.same("by 15", x.watchCall(15, LOW, HIGH, 0), 0);
        check.same("counter", x.counterOf(0, true), 2);
    }

    /** Promise 19: "NONE if nowhere, or there is none such" */
    private static void wayOf() {
        GuardForge x = check.rightText("(node a (go 0 a) (go 15 b))(node b (go any b))");
        for (int state : new int[] {-1, 2, 3, 62, 63, 64, LOW, HIGH}) {
            check.same("wayOf(" + state + ", 0)", x.wayOf(state, 0), -1);
            check.same("wayOf(" + state + ", 15)", x.wayOf(state, 15), -1);
        }
        for (int letter : new int[] {-1, 16, 17, 511, 512, LOW, HIGH}) {
            check.same("wayOf(0, " + letter + ")", x.wayOf(0, letter), -1);
            check.same("wayOf(1, " + letter + ")", x.wayOf(1, letter), -1);
        }
        check.same("the first", x.wayOf(0, 0), 0);
        check.same("nowhere", x.wayOf(0, 1), -1);
        check.same("the last letter", x.wayOf(0, 15), 1);
        check.same("the last of the last", x.wayOf(1, 15), 1);
    }

    /**
     * Promise 20: "(-2147483648 for the lowest one of an ARGUMENT; 0 where it has no such ARGUMENT, or there is no such
     * COUNTER). 0 if there is none such, or no such what."
     */
    private static void letterOf() {
        GuardForge x = check.rightText("(counter c 5)(counter d 5)(node a (go 0 (count c less 3) (count d same 2) a) "
                + "(go 15 (arg 2 more 7) (count d less 1) a))");
        // Call 0 has 2 * 3 letters, call 15 has 2 * 2.
        check.same("letters", x.lookAt(2), 6 + 14 + 4);
        int[][] due = {{0, 0, 0, 0, 0, 0, 0, 0, 0, 0}, {0, 0, 0, 0, 0, 2, 0, 0, 0, 0}, {0, 0, 0, 0, 0, 3, 0, 0, 0, 0},
            {0, 0, 0, 0, 3, 0, 0, 0, 0, 0}, {0, 0, 0, 0, 3, 2, 0, 0, 0, 0}, {0, 0, 0, 0, 3, 3, 0, 0, 0, 0}};
        for (int letter = 0; letter < 6; letter++) {
            for (int what = 0; what < 10; what++) {
                check.same("letterOf(" + letter + ", " + what + ")", x.letterOf(letter, what), due[letter][what]);
            }
        }
        for (int n = 0; n < 4; n++) {
            int[] row = {15, LOW, LOW, n < 2 ? LOW : 8, 0, n % 2, 0, 0, 0, 0};
            for (int what = 0; what < 10; what++) {
                check.same("letterOf(" + (20 + n) + ", " + what + ")", x.letterOf(20 + n, what), row[what]);
            }
        }
        for (int c = 1; c < 15; c++) {
            for (int i = 0; i < 3; i++) {
                check.same("argument " + i + " of " + c, x.letterOf(5 + c, 1 + i), i < c % 4 ? LOW : 0);
            }
        }
        for (int letter : new int[] {-1, -6, 24, 25, 511, 512, LOW, HIGH}) {
            for (int what = 0; what < 10; what++) {
                check.same("letterOf(" + letter + ", " + what + ")", x.letterOf(letter, what), 0);
            }
        }
        for (int what : new int[] {-1, 10, 11, LOW, HIGH}) {
            for (int letter : new int[] {0, 5, 23}) {
                check.same("letterOf(" + letter + ", " + what + ")", x.letterOf(letter, what), 0);
            }
        }
    }

    private static GuardForge forged() {
        return check.with("(counter c 1 (up 0))(node a (go any a))", Build.program(
                Build.function(0, 0, 0, 1, "push 5, host 0, add, call 1, return"),
                Build.function(1, 2, 2, 1, "load 0, load 1, size, add, return, host 0")));
    }

    /** Promise 21: "0 if there is none such, or no such what" */
    private static void codeOf() {
        GuardForge x = forged();
        for (int what = 0; what <= 5; what++) {
            check.same("nothing forged", x.codeOf(true, 0, 0, what), 0);
        }
        check.same("forge", x.forgeIt(), 2);
        int[][] sizes = {{5, 6}, {6, 7}};
        for (int forged = 0; forged <= 1; forged++) {
            boolean of = forged == 1;
            for (int f = 0; f < 2; f++) {
                int size = sizes[forged][f];
                for (int i : new int[] {-1, size, size + 1, 400, LOW, HIGH}) {
                    for (int what = 0; what <= 5; what++) {
                        check.same("codeOf(" + of + ", " + f + ", " + i + ", " + what + ")", x.codeOf(of, f, i, what), 0);
                    }
                }
                for (int what : new int[] {-1, 6, 7, LOW, HIGH}) {
                    check.same("codeOf(" + of + ", " + f + ", 0, " + what + ")", x.codeOf(of, f, 0, what), 0);
                }
            }
            for (int f : new int[] {-1, 2, 3, 11, 12, LOW, HIGH}) {
                check.same("codeOf(" + of + ", " + f + ", 0, 2)", x.codeOf(of, f, 0, 2), 0);
                check.same("codeOf(" + of + ", " + f + ", 1, 0)", x.codeOf(of, f, 1, 0), 0);
            }
        }
        // The last one of each: HOST 0, which is never come to.
        int[] last = {26, 0, -1, 0, 0, 1};
        for (int what = 0; what <= 5; what++) {
            check.same("the last, " + what, x.codeOf(false, 1, 5, what), last[what]);
            check.same("the last forged, " + what, x.codeOf(true, 1, 6, what), what == 4 ? 1 : last[what]);
        }
    }

    /** Promise 21: "1: what stands behind (0 without that)" */
    private static void whatStandsBehind() {
        GuardForge x = new GuardForge();
        // What is never come to may be what it likes.
        byte[] row = Build.program(Build.function(0, 12, 0, 0, "push -7, load 11, store 10, jump 4, return, add, if 6, ifnot 7, call 1, "
                + "host 15, guard 14, return"), Build.function(0, 0, 0, 0, "return"));
        check.same("load", Check.program(x, row), 0);
        int[] due = {-7, 11, 10, 4, 0, 0, 6, 7, 1, 15, 14, 0};
        for (int i = 0; i < due.length; i++) {
            check.same("what stands behind " + i, x.codeOf(false, 0, i, 1), due[i]);
        }
        // Behind one with a number there is none of that number.
        check.same("load", Check.program(x, Build.program(Build.function(0, 0, 0, 0, "return"))), 0);
        check.same("return", x.codeOf(false, 0, 0, 1), 0);
        check.same("load", Check.program(x, Build.program(Build.function(0, 0, 0, 0, "return, pop"))), 0);
        check.same("pop", x.codeOf(false, 0, 1, 1), 0);
    }

    /** Promise 22: "0 if there is none such" */
    private static void mayOf() {
        GuardForge x = forged();
        check.same("nothing forged", x.mayOf(true, 0, 0), 0);
        check.same("forge", x.forgeIt(), 2);
        for (boolean of : new boolean[] {false, true}) {
            for (int i : new int[] {-1, 6, 7, 400, LOW, HIGH}) {
                check.same("mayOf(" + of + ", 0, " + i + ")", x.mayOf(of, 0, i), 0);
            }
            for (int f : new int[] {-1, 2, 12, LOW, HIGH}) {
                check.same("mayOf(" + of + ", " + f + ", 0)", x.mayOf(of, f, 0), 0);
            }
            check.same("the first", x.mayOf(of, 0, 0), 1);
            check.same("the last of the program", x.mayOf(of, 0, 4), 1);
        }
        check.same("behind the last of the program", x.mayOf(false, 0, 5), 0);
        check.same("the last of what is forged", x.mayOf(true, 0, 5), 1);
        check.same("never come to", x.mayOf(false, 1, 5), 0);
    }

    /** Promise 23: "NONE if there is none such" */
    private static void functionOf() {
        GuardForge x = forged();
        for (int what = -1; what <= 5; what++) {
            check.same("nothing forged", x.functionOf(true, 0, what), -1);
        }
        check.same("forge", x.forgeIt(), 2);
        int[][] due = {{0, 0, 1, 5, 0}, {1, 2, 1, 6, 0}};
        for (boolean of : new boolean[] {false, true}) {
            for (int f = 0; f < 2; f++) {
                for (int what = 0; what < 5; what++) {
                    int more = of && what == 3 ? 1 : 0;
                    check.same("functionOf(" + of + ", " + f + ", " + what + ")", x.functionOf(of, f, what), due[f][what] + more);
                }
                for (int what : new int[] {-1, 5, 6, LOW, HIGH}) {
                    check.same("functionOf(" + of + ", " + f + ", " + what + ")", x.functionOf(of, f, what), -1);
                }
            }
            for (int f : new int[] {-1, 2, 11, 12, LOW, HIGH}) {
                check.same("functionOf(" + of + ", " + f + ", 0)", x.functionOf(of, f, 0), -1);
            }
        }
    }

    /** Promise 25: "(5 to 7: NONE if there is none such)", "NONE for any other which" */
    private static void lookAt() {
        GuardForge x = new GuardForge();
        for (int which : new int[] {-1, 14, 15, 255, LOW, HIGH}) {
            check.same("lookAt(" + which + ")", x.lookAt(which), -1);
        }
        for (int which = 5; which <= 7; which++) {
            check.same("none such " + which, x.lookAt(which), -1);
        }
        Check.program(x, Build.program(Build.function(0, 0, 0, 0, "return, return"), Build.function(0, 0, 0, 0, "return")));
        int[] due = {2, 3, -1};
        for (int which = 5; which <= 7; which++) {
            check.same("a program " + which, x.lookAt(which), due[which - 5]);
        }
        check.same("forge", x.forgeIt(), 0);
        check.same("forged", x.lookAt(7), 3);
        // A program that is wrong leaves both, one that is right has nothing forged.
        Check.program(x, Build.program(Build.function(0, 0, 0, 0, "pop")));
        check.same("functions stay", x.lookAt(5), 2);
        check.same("forged stays", x.lookAt(7), 3);
        Check.program(x, Build.program(Build.function(0, 0, 0, 0, "return")));
        check.same("functions", x.lookAt(5), 1);
        check.same("instructions", x.lookAt(6), 1);
        check.same("nothing forged", x.lookAt(7), -1);
        check.same("forge", x.forgeIt(), 0);
        check.same("forged", x.lookAt(7), 1);
        Check.policy(x, "(node a)");
        check.same("nothing forged behind a policy", x.lookAt(7), -1);
        check.same("the program stays behind a policy", x.lookAt(6), 1);
    }

    /** Promise 25: "11: the fault of the latest loadPolicy() or loadProgram() (0 without one), 12: its place (NONE without one)" */
    private static void faultOfTheLatestLoad() {
        GuardForge x = new GuardForge();
        told(x, 0, -1);
        Check.policy(x, "(node");
        told(x, 3, 5);
        Check.program(x, new byte[] {71, 70, 1});
        told(x, 1, 3);
        Check.policy(x, "(node a)");
        told(x, 0, -1);
        Check.program(x, new byte[] {71, 71});
        told(x, 2, 1);
        Check.program(x, Build.program(Build.function(0, 0, 0, 0, "return")));
        told(x, 0, -1);
        Check.program(x, Build.program(Build.function(0, 0, 0, 0, "return"), Build.function(0, 0, 0, 0, "pop")));
        told(x, 5, 512);
        // Other calls leave it.
        x.cutBytes(0);
        x.forgeIt();
        x.runIt(false, 5);
        x.runIt(false, -5);
        x.saveProgram(false);
        x.turnBytes();
        x.watchCall(0, 0, 0, 0);
        x.resetWatch();
        told(x, 5, 512);
        Check.policy(x, "");
        told(x, 4, 0);
        Check.program(x, new byte[0]);
        told(x, 1, 0);
        // Places that are 0 are places.
        Check.policy(x, "#");
        told(x, 1, 0);
        Check.program(x, Build.program(Build.function(0, 0, 0, 0, "pop")));
        told(x, 5, 0);
        Check.policy(x, "(node a)");
        told(x, 0, -1);
    }

    /** An object with something of everything, THE WATCH in state 1 and its counter 1. */
    private static GuardForge withAll() {
        GuardForge x = check.with("(counter c 5 (up 0))(node a (go 0 b))(node b (go 0 b) (go 4 b))",
                Build.program(Build.function(0, 0, 0, 1, "host 0, return")));
        check.same("forge", x.forgeIt(), 1);
        check.same("answer", x.addAnswer(6), 1);
        check.same("run", x.runIt(true, 9), 0);
        check.same("save", x.saveProgram(true), 17);
        check.same("watch", x.watchCall(0, 0, 0, 0), 1);
        check.same("counter", x.counterOf(0, true), 1);
        return x;
    }

    /** Promise 6: "0, and that is the POLICY, nothing is FORGED, THE WATCH is as at first, the PROGRAM stays" */
    private static void whatLoadPolicyChanges() {
        GuardForge x = withAll();
        String text = "(counter c 5 (up 0))(counter d 5)(node a (go 0 b))(node b (go 0 b) (go 4 b))";
        check.same("load", Check.policy(x, text), 0);
        check.same("counters", x.lookAt(0), 2);
        check.same("nothing forged", x.lookAt(7), -1);
        check.same("nothing forged to run", x.runIt(true, 9), -1);
        check.same("state of the watch", x.lookAt(13), 0);
        check.same("counter of the watch", x.counterOf(0, true), 0);
        check.same("no run", x.endOf(0), -1);
        check.same("the program stays", x.lookAt(6), 2);
        check.same("and can be forged", x.forgeIt(), 1);
        check.same("answers stay", x.lookAt(8), 1);
        check.same("bytes stay", x.lookAt(9), text.length());
        check.same("written stay", x.lookAt(10), 17);
    }

    /** Promise 7: "0, and that is the PROGRAM, nothing is FORGED (THE WATCH stays)" */
    private static void whatLoadProgramChanges() {
        GuardForge x = withAll();
        check.same("load", Check.program(x, Build.program(Build.function(0, 0, 0, 0, "return"))), 0);
        check.same("instructions", x.lookAt(6), 1);
        check.same("nothing forged", x.lookAt(7), -1);
        check.same("nothing forged to run", x.runIt(true, 9), -1);
        check.same("state of the watch stays", x.lookAt(13), 1);
        check.same("counter of the watch stays", x.counterOf(0, true), 1);
        check.same("no run", x.endOf(0), -1);
        check.same("the policy stays", x.lookAt(4), 2);
        check.same("answers stay", x.lookAt(8), 1);
        check.same("bytes stay", x.lookAt(9), 13);
        check.same("written stay", x.lookAt(10), 17);
    }

    /** "An object is used for at most 512 calls after it has been made": the longest text and program, and the last call */
    private static void fiveHundredTwelveCalls() {
        GuardForge x = new GuardForge();
        String text = "(node abcdefghijkl (go any (not (arg 2 same -2147483648)) abcdefghijkl))";
        Check.give(x, (text + " ".repeat(4072 - text.length())).getBytes(StandardCharsets.ISO_8859_1));
        // cutBytes and 509 times giveBytes are 510 calls.
        check.same("call 511", x.loadPolicy(), 0);
        check.same("call 512", x.lookAt(2), 20);
        x = new GuardForge();
        Check.give(x, (" ".repeat(4056) + "(node a").getBytes(StandardCharsets.ISO_8859_1));
        check.same("call 510", x.loadPolicy(), 3);
        check.same("call 511", x.lookAt(11), 3);
        check.same("call 512", x.lookAt(12), 4063);
        x = new GuardForge();
        byte[][] functions = new byte[10][];
        for (int f = 0; f < 10; f++) {
            functions[f] = Build.function(0, 0, 0, 0, Build.times(f == 9 ? 370 : 399, "return", "return"));
        }
        byte[] row = Build.program(functions);
        Check.give(x, row);
        int calls = 1 + (row.length + 7) / 8;
        check.same("load", x.loadProgram(), 0);
        check.same("forge", x.forgeIt(), 0);
        for (calls += 2; calls < 512; calls++) {
            check.same("may of the last, call " + calls, x.mayOf(true, 9, 370), 0);
        }
    }

    private static void told(GuardForge x, int fault, int place) {
        check.same("fault", x.lookAt(11), fault);
        check.same("place", x.lookAt(12), place);
    }
}
