/**
 * The INSTRUCTIONS of "PROGRAMS", "RUNS", which codes are THROWN, and promises 11 to 16: each sentence that names a
 * boundary case, one method each, the sentence ahead of it.
 */
public final class RunEdgesTest {
    private static final Check check = new Check("RunEdgesTest");
    private static final int LOW = Integer.MIN_VALUE;
    private static final int HIGH = Integer.MAX_VALUE;
    private static final int[] EDGES = {LOW, LOW + 1, -2, -1, 0, 1, 2, HIGH - 1, HIGH};

    public static void main(String[] args) {
        reckoning();
        shifts();
        jumpsByZero();
        locals();
        localsAtFirst();
        newRows();
        allRowsTogether();
        placesOfRows();
        sizes();
        paramsOfCalls();
        argumentsOfHosts();
        whatIsBelow();
        fortyFunctions();
        fuelIsGone();
        fuelFromTo();
        guardsAreNoSteps();
        guardsLookAtArguments();
        endsTwo();
        answers();
        mostAnswers();
        endsZero();
        anyCode();
        rangeOfHandlers();
        firstHandler();
        codeAlone();
        thrownByTheCall();
        functionZeroAgain();
        endOf();
        noRunSince();
        keptCalls();
        countersOfTheRun();
        nextRun();
        check.end();
    }

    private static void value(String words, int value) {
        check.ends(words, Build.main(words), 0, value);
    }

    private static void code(String words, int code) {
        check.ends(words, Build.main(words), 1, code);
    }

    /** What two INTS come to, by long numbers where Java's own ints could be wrong in the same way. */
    private static long due(String word, long a, long b) {
        switch (word) {
            case "add":
                return a + b;
            case "sub":
                return a - b;
            case "mul":
                return a * b;
            case "div":
                return a / b;
            case "rem":
                return a - a / b * b;
            case "and":
                return a & b;
            case "or":
                return a | b;
            case "xor":
                return a ^ b;
            case "less":
                return a < b ? 1 : 0;
            default:
                return a == b ? 1 : 0;
        }
    }

    /**
     * "6 ADD, 7 SUB, 8 MUL (modulo 2^32), 9 DIV, rounded towards 0 (-2147483648 by -1 is -2147483648), 10 REM ..
     * 17 SAME: take b, then a"
     */
    private static void reckoning() {
        for (String word : new String[] {"add", "sub", "mul", "div", "rem", "and", "or", "xor", "less", "same"}) {
            GuardForge x = check.with(Build.main("host 0, host 0, " + word + ", return"));
            for (int a : EDGES) {
                for (int b : EDGES) {
                    x.dropAnswers();
                    x.addAnswer(a);
                    x.addAnswer(b);
                    boolean byZero = b == 0 && (word.equals("div") || word.equals("rem"));
                    check.same(a + " " + word + " " + b, x.runIt(false, 9), byZero ? 1 : 0);
                    check.same(a + " " + word + " " + b, x.endOf(1), byZero ? 1 : (int) due(word, a, b));
                }
            }
        }
        value("push -2147483648, push -1, div, return", LOW);
        value("push -2147483648, push -1, rem, return", 0);
        value("push 7, push -2, div, return", -3);
        value("push -7, push 2, div, return", -3);
        value("push -7, push -2, rem, return", -1);
        value("push 7, push -2, rem, return", 1);
        value("push 5, push 1, div, return", 5);
        value("push 65536, push 65536, mul, return", 0);
    }

    /** "14 SHL, 15 SHR (with the sign; by the lowest five bits)" */
    private static void shifts() {
        int[] by = {0, 1, 30, 31, 32, 33, 63, 64, -1, -31, -32, -33, LOW, HIGH};
        for (int a : EDGES) {
            GuardForge x = check.with(Build.main("push " + a + ", host 0, shl, return"));
            GuardForge y = check.with(Build.main("push " + a + ", host 0, shr, return"));
            for (int b : by) {
                long times = 1L << (b & 31);
                x.dropAnswers();
                x.addAnswer(b);
                x.runIt(false, 9);
                check.same(a + " shl " + b, x.endOf(1), (int) (a * times));
                y.dropAnswers();
                y.addAnswer(b);
                y.runIt(false, 9);
                check.same(a + " shr " + b, y.endOf(1), (int) Math.floorDiv((long) a, times));
            }
        }
    }

    /** "19 IF t: takes an INT, and goes there if it is not 0; 20 IFNOT t: if it is 0" */
    private static void jumpsByZero() {
        for (String word : new String[] {"if", "ifnot"}) {
            GuardForge x = check.with(Build.main("host 0, " + word + " 4, push 10, return, push 20, return"));
            for (int v : EDGES) {
                x.dropAnswers();
                x.addAnswer(v);
                check.same(word + " " + v, x.runIt(false, 9), 0);
                check.same(word + " " + v, x.endOf(1), v != 0 == word.equals("if") ? 20 : 10);
            }
        }
        // To the first and to the last INSTRUCTION.
        GuardForge x = check.with(Build.program(Build.function(0, 0, 0, 0, "jump 399, " + Build.times(398, "return", "jump 0"))));
        check.same("to the last and back", x.runIt(false, 1001), 3);
        check.same("steps", x.endOf(2), 1001);
    }

    /** "4 LOAD l (a byte): puts LOCAL l. 5 STORE l: takes it into LOCAL l.", the first and the last */
    private static void locals() {
        StringBuilder words = new StringBuilder();
        for (int l = 0; l < 12; l++) {
            words.append("push ").append(1 << l).append(", store ").append(l).append(", ");
        }
        for (int l = 0; l < 12; l++) {
            check.ends("local " + l, Build.program(Build.function(0, 12, 0, 1, words + "load " + l + ", return")), 0, 1 << l);
        }
        for (int k : EDGES) {
            value("push " + k + ", return", k);
            value("push " + k + ", store 0, load 0, return", k);
        }
    }

    /** "(ROWS of LOCALS are of no INTS at first, INTS 0.)", in each FUNCTION that is begun */
    private static void localsAtFirst() {
        byte[] uses = Build.function(0, 12, 0x0AAA, 1, "load 0, load 1, size, add, load 10, add, load 11, size, add, "
                + "push 5, store 0, push 6, store 10, push 7, new, store 1, push 8, new, store 11, return");
        check.ends("the first time and the third", Build.program(Build.function(0, 0, 0, 1,
                "call 1, call 1, call 1, add, add, return"), uses), 0, 0);
        // Also where one that was called before had others, of other types.
        check.ends("behind other functions", Build.program(Build.function(0, 0, 0, 1, "call 2, pop, call 1, return"), uses,
                Build.function(0, 12, 0x0555, 1, "push 9, store 1, push 9, store 11, push 9, new, store 0, push 9, new, store 10, "
                        + "push 1, return")), 0, 0);
        // A PARAM is what was given, the LOCALS behind it are as at first.
        check.ends("behind a param", Build.program(Build.function(0, 0, 0, 1, "push 3, push 4, add, call 1, return"),
                Build.function(1, 3, 4, 1, "load 0, load 1, add, load 2, size, add, return")), 0, 7);
        code("load 4, push 0, get, return", 2);
        code("load 5, push 0, push 1, put, push 1, return", 2);
    }

    /** "21 NEW: takes an INT n, puts a new ROW of n INTS, all 0" and "3 by NEW, if n is below 0 or above 256" */
    private static void newRows() {
        for (int n : new int[] {0, 1, 2, 255, 256}) {
            value("push " + n + ", new, size, return", n);
            GuardForge x = check.with(Build.main("push " + n + ", new, size, return"));
            x.runIt(false, 9);
            check.same("INTS of a row of " + n, x.endOf(6), n);
        }
        for (int n : new int[] {-1, 257, -256, 258, 512, 4096, 65536, LOW, HIGH}) {
            code("push " + n + ", new, size, return", 3);
            GuardForge x = check.with(Build.main("push " + n + ", new, size, return"));
            x.runIt(false, 9);
            check.same("no INTS of a row of " + n, x.endOf(6), 0);
        }
        // All of them are 0, the first and the last, also where a row of an earlier RUN was.
        GuardForge x = check.with(Build.main("push 256, new, store 4, load 4, push 0, get, load 4, push 255, get, or, store 0, "
                + "load 4, push 0, push 7, put, load 4, push 255, push 7, put, load 0, return"));
        for (int n = 0; n < 3; n++) {
            check.same("run", x.runIt(false, 100), 0);
            check.same("all 0", x.endOf(1), 0);
        }
    }

    /** "or all ROWS of the RUN would have, with this one, more than 4096 INTS together" */
    private static void allRowsTogether() {
        String fifteen = "push 15, store 0, push 256, new, pop, load 0, push 1, sub, dup, store 0, if 2, ";
        for (int n : new int[] {0, 1, 255, 256}) {
            GuardForge x = check.with(Build.main(fifteen + "push " + n + ", new, size, return"));
            check.same("3840 and " + n, x.runIt(false, 20000), 0);
            check.same("INTS of all rows", x.endOf(6), 3840 + n);
        }
        for (int n = 0; n <= 2; n++) {
            GuardForge x = check.with(Build.main(fifteen + "push 255, new, pop, push " + n + ", new, size, return"));
            check.same("4095 and " + n, x.runIt(false, 20000), n <= 1 ? 0 : 1);
            check.same("value or code", x.endOf(1), n <= 1 ? n : 3);
            check.same("INTS of all rows", x.endOf(6), n <= 1 ? 4095 + n : 4095);
        }
        // Where there is no room for two there still is for one, and then for none, but a row of 0.
        GuardForge x = check.with(Build.main(fifteen + "push 255, new, pop, push 2, new, pop, push 1, return, pop, push 1, new, pop, "
                + "push 0, new, size, push 1, new, size, add, return, push 40, add, return",
                Build.handler(11, 16, 19), Build.handler(19, 28, 31, 3)));
        check.same("caught twice", x.runIt(false, 20000), 0);
        check.same("the second code and 40", x.endOf(1), 43);
        check.same("4096", x.endOf(6), 4096);
        // Of all FUNCTIONS, those that are done no more, too.
        x = check.with(Build.program(Build.function(0, 1, 0, 1, "push 16, store 0, call 1, load 0, push 1, sub, dup, store 0, if 2, "
                + "push 1, new, size, return"), Build.function(0, 1, 1, 0, "push 256, new, store 0, return")));
        check.same("16 of another function, and one", x.runIt(false, 20000), 1);
        check.same("code", x.endOf(1), 3);
        check.same("4096", x.endOf(6), 4096);
        // Each RUN has room of its own.
        check.same("again", x.runIt(false, 20), 3);
        check.same("two rows", x.endOf(6), 512);
    }

    /** "2 by GET and PUT where the ROW has nothing" */
    private static void placesOfRows() {
        for (int n : new int[] {0, 1, 2, 255, 256}) {
            for (int i : new int[] {LOW, -1, 0, 1, n - 1, n, n + 1, 256, 511, 512, HIGH}) {
                boolean there = i >= 0 && i < n;
                String row = "push " + n + ", new, store 4, load 4, push " + i + ", ";
                GuardForge x = check.with(Build.main(row + "get, return"));
                check.same("get " + i + " of " + n, x.runIt(false, 99), there ? 0 : 1);
                check.same("get " + i + " of " + n, x.endOf(1), there ? 0 : 2);
                x = check.with(Build.main(row + "push 77, put, load 4, push " + i + ", get, return"));
                check.same("put " + i + " of " + n, x.runIt(false, 99), there ? 0 : 1);
                check.same("put " + i + " of " + n, x.endOf(1), there ? 77 : 2);
            }
        }
        // Just at its place: neither of its neighbours, nor the rows ahead of it and behind.
        String three = "push 2, new, store 4, push 3, new, dup, push 0, push 10, put, dup, push 1, push 11, put, dup, push 2, "
                + "push 12, put, push 2, new, store 5, ";
        int[] due = {10, 11, 12};
        for (int i = 0; i < 3; i++) {
            value(three + "push " + i + ", get, return", due[i]);
        }
        value(three + "pop, load 4, push 1, get, load 5, push 0, get, or, return", 0);
    }

    /** "24 SIZE: takes a ROW, puts how many INTS it has" */
    private static void sizes() {
        value("load 4, size, return", 0);
        value("push 0, new, size, return", 0);
        value("push 256, new, dup, store 4, size, load 4, size, add, return", 512);
        // Of a ROW that is the last of all.
        value("push 16, store 0, push 256, new, store 4, load 0, push 1, sub, dup, store 0, if 2, load 4, push 255, push 9, put, "
                + "load 4, push 255, get, load 4, size, add, return", 265);
    }

    /** "25 CALL f (a byte): takes PARAMS (the last one first), puts RESULT, if there is one" */
    private static void paramsOfCalls() {
        for (int n = 0; n <= 4; n++) {
            StringBuilder pushes = new StringBuilder("push 1000, ");
            StringBuilder loads = new StringBuilder("push 0, ");
            int due = 0;
            for (int k = 0; k < n; k++) {
                pushes.append("push ").append(k + 1).append(", ");
                loads.append("push 10, mul, load ").append(k).append(", add, ");
                due = 10 * due + k + 1;
            }
            check.ends(n + " params", Build.program(Build.function(0, 0, 0, 1, pushes + "call 1, add, return"),
                    Build.function(n, n, 0, 1, loads + "return")), 0, 1000 + due);
            check.ends(n + " params, no result", Build.program(Build.function(0, 0, 0, 1, pushes + "call 1, return"),
                    Build.function(n, n, 0, 0, "push 5, return")), 0, 1000);
        }
        check.ends("the last of twelve", Build.program(Build.function(0, 0, 0, 1, "call 11, return"), one(1), one(2), one(3), one(4),
                one(5), one(6), one(7), one(8), one(9), one(10), one(11)), 0, 11);
    }

    private static byte[] one(int value) {
        return Build.function(0, 0, 0, 1, "push " + value + ", return");
    }

    /** "26 HOST c .. takes the ARGUMENTS (the last one first): this CALL OUTSIDE; puts its ANSWER", "number c has c modulo 4 ARGUMENTS" */
    private static void argumentsOfHosts() {
        for (int c = 0; c < 16; c++) {
            // What is above the stack's top, and below the arguments, are none of them.
            GuardForge x = check.with(Build.main("push 91, push 92, push 93, push 94, pop, pop, pop, pop, push 500, "
                    + (c % 4 > 0 ? "push 11, " : "") + (c % 4 > 1 ? "push 12, " : "") + (c % 4 > 2 ? "push 13, " : "")
                    + "host " + c + ", sub, return"));
            x.addAnswer(7);
            check.same("host " + c, x.runIt(false, 99), 0);
            check.same("what is below stays, the answer is put: " + c, x.endOf(1), 493);
            check.same("number", x.traceAt(0, 0), c);
            for (int i = 0; i < 3; i++) {
                check.same("argument " + i + " of " + c, x.traceAt(0, 1 + i), i < c % 4 ? 11 + i : 0);
            }
            check.same("answer", x.traceAt(0, 4), 7);
        }
    }

    /** "27 RETURN: takes RESULT, if there is one; what is below that is gone" */
    private static void whatIsBelow() {
        for (int n = 0; n <= 15; n++) {
            check.ends(n + " below", Build.program(Build.function(0, 0, 0, 1, "push 100, call 1, sub, return"),
                    Build.function(0, 0, 0, 1, Build.times(n, "push 9", "push 1, return"))), 0, 99);
        }
        check.ends("sixteen below, no result", Build.program(Build.function(0, 0, 0, 1, "push 100, call 1, return"),
                Build.function(0, 0, 0, 0, Build.times(16, "push 9", "return"))), 0, 100);
        // Sixteen on each of forty stacks, and none disturbs another one.
        check.ends("forty full stacks", Build.program(Build.function(0, 0, 0, 1, "push 38, call 1, return"),
                Build.function(1, 1, 0, 1, Build.times(14, "load 0", "load 0, ifnot 21, load 0, push 1, sub, call 1, jump 22, push 0, "
                        + Build.times(14, "add", "return")))), 0, 14 * 38 * 39 / 2);
    }

    /** "4 by CALL, if 40 FUNCTIONS are being done" */
    private static void fortyFunctions() {
        byte[] down = Build.function(1, 1, 0, 1, "load 0, ifnot 7, load 0, push 1, sub, call 1, return, push 5, return");
        for (int n = 37; n <= 40; n++) {
            GuardForge x = check.with(Build.program(Build.function(0, 0, 0, 1, "push " + n + ", call 1, return"), down));
            check.same(n + 2 + " at once", x.runIt(false, 20000), n <= 38 ? 0 : 1);
            check.same("value or code", x.endOf(1), n <= 38 ? 5 : 4);
            check.same("most at once", x.endOf(7), Math.min(40, n + 2));
        }
        // Those that have returned are not being done any more.
        GuardForge x = check.with(Build.program(Build.function(0, 1, 0, 1, "push 100, store 0, push 5, call 1, pop, load 0, push 1, sub, "
                + "dup, store 0, if 2, push 38, call 1, return"), down));
        check.same("a hundred times seven, then forty", x.runIt(false, 20000), 0);
        check.same("value", x.endOf(1), 5);
        check.same("most at once", x.endOf(7), 40);
        // Nor are those that a code was thrown through.
        x = check.with(Build.program(Build.function(0, 1, 0, 1, "push 30, store 0, push 39, call 1, return, pop, load 0, push 1, sub, "
                + "dup, store 0, if 2, push 38, call 1, return", Build.handler(3, 4, 5, 4)), down));
        check.same("thirty times too many, then forty", x.runIt(false, 20000), 0);
        check.same("value", x.endOf(1), 5);
        // It is thrown by the CALL, in the FUNCTION in which that is.
        x = check.with(Build.program(Build.function(0, 0, 0, 1, "call 1, return"),
                Build.function(0, 0, 0, 1, "call 1, return, push 100, add, return", Build.handler(0, 1, 2, 4))));
        check.same("caught", x.runIt(false, 20000), 0);
        check.same("value", x.endOf(1), 104);
        check.same("steps: 40 CALLS, the last one of them throws, 2, 40 RETURNS", x.endOf(2), 82);
    }

    /** "If STEPS (0 at first) is FUEL, ahead of an INSTRUCTION (also a GUARD), the RUN ENDS 3." */
    private static void fuelIsGone() {
        GuardForge x = check.with(Build.main("push 1, push 2, add, return"));
        for (int fuel = 0; fuel <= 5; fuel++) {
            check.same("runIt with " + fuel, x.runIt(false, fuel), fuel < 4 ? 3 : 0);
            check.same("steps with " + fuel, x.endOf(2), Math.min(4, fuel));
            check.same("value with " + fuel, x.endOf(1), fuel < 4 ? 0 : 3);
        }
        // One that throws is a STEP; what is thrown there is not lost if fuel is gone behind it.
        x = check.with(Build.main("push 1, throw"));
        check.same("fuel 1", x.runIt(false, 1), 3);
        check.same("fuel 2", x.runIt(false, 2), 1);
        x = check.with(Build.main("push 1, throw, return", Build.handler(1, 2, 2)));
        check.same("fuel 2, with a handler", x.runIt(false, 2), 3);
        check.same("fuel 3, with a handler", x.runIt(false, 3), 0);
        // A CALL, a HOST and a RETURN are one each.
        x = check.with(Build.program(Build.function(0, 0, 0, 0, "call 1, host 0, return"), Build.function(0, 0, 0, 0, "return")));
        int[] calls = {0, 0, 0, 1, 1};
        for (int fuel = 0; fuel <= 4; fuel++) {
            check.same("runIt with " + fuel, x.runIt(false, fuel), fuel < 4 ? 3 : 0);
            check.same("calls outside with " + fuel, x.endOf(3), calls[fuel]);
            check.same("functions with " + fuel, x.endOf(7), fuel == 0 ? 1 : 2);
        }
    }

    /** Promise 13: "with such FUEL, 0 .. 20000 .. NONE if there is none such, or no such FUEL (the latest RUN stays)" */
    private static void fuelFromTo() {
        GuardForge x = check.with(Build.main("jump 0"));
        check.same("20000", x.runIt(false, 20000), 3);
        check.same("steps", x.endOf(2), 20000);
        check.same("19999", x.runIt(false, 19999), 3);
        check.same("steps", x.endOf(2), 19999);
        for (int fuel : new int[] {20001, -1, LOW, HIGH, -20000, 65536}) {
            check.same("runIt with " + fuel, x.runIt(false, fuel), -1);
            check.same("nothing forged, runIt with " + fuel, x.runIt(true, fuel), -1);
        }
        check.same("nothing forged", x.runIt(true, 5), -1);
        check.same("the latest run stays", x.endOf(2), 19999);
        check.same("0", x.runIt(false, 0), 3);
        check.same("no steps", x.endOf(2), 0);
        check.same("forge", x.forgeIt(), 0);
        check.same("forged: 20001", x.runIt(true, 20001), -1);
        check.same("forged: -1", x.runIt(true, -1), -1);
        check.same("the latest run stays still", x.endOf(2), 0);
        check.same("forged: 20000", x.runIt(true, 20000), 3);
        check.same("steps", x.endOf(2), 20000);
    }

    /** "All others are a STEP each.": a GUARD is none, however many there are */
    private static void guardsAreNoSteps() {
        GuardForge x = check.with(Build.main("guard 0, host 0, return"));
        int[] passed = {0, 1, 1};
        for (int fuel = 0; fuel <= 2; fuel++) {
            check.same("runIt with " + fuel, x.runIt(false, fuel), fuel < 2 ? 3 : 0);
            check.same("steps with " + fuel, x.endOf(2), fuel);
            check.same("guards with " + fuel, x.endOf(4), passed[fuel]);
        }
        x = check.with(Build.main("push 1, guard 0, return"));
        check.same("fuel is gone ahead of a guard", x.runIt(false, 1), 3);
        check.same("not passed", x.endOf(4), 0);
        check.same("fuel is gone behind it", x.runIt(false, 2), 0);
        check.same("passed", x.endOf(4), 1);
        // As many as there can be: 399 for each STEP, of which there are 20000.
        x = check.with(Build.main(Build.times(399, "guard 0", "jump 0")));
        check.same("the longest run", x.runIt(false, 20000), 3);
        check.same("steps", x.endOf(2), 20000);
        check.same("guards", x.endOf(4), 399 * 20000);
    }

    /** "29 GUARD c: looks at the ARGUMENTS of c, which stay" */
    private static void guardsLookAtArguments() {
        for (int i = 0; i < 3; i++) {
            for (int n = 0; n < 3; n++) {
                // Argument i has to be 7; it is argument n that is.
                int[] row = {5, 5, 5};
                row[n] = 7;
                GuardForge x = check.with("(node a (go 3 (arg " + i + " same 7) a))", Build.main("push 40, push " + row[0]
                        + ", push " + row[1] + ", push " + row[2] + ", guard 3, sub, sub, sub, return"));
                check.same("argument " + i + " where " + n + " is 7", x.runIt(false, 99), n == i ? 0 : 2);
                check.same("they stay", x.endOf(1), n == i ? 40 - (row[0] - (row[1] - row[2])) : 0);
                check.same("no call outside", x.endOf(3), 0);
            }
        }
        // A call with one ARGUMENT: the top, not what is below it or above.
        GuardForge x = check.with("(node a (go 1 (arg 0 same 7) a))", Build.main("push 5, push 7, push 5, pop, guard 1, host 1, return"));
        check.same("the top", x.runIt(false, 99), 0);
        check.same("load", Check.program(x, Build.main("push 7, push 5, push 7, pop, guard 1, host 1, return")), 0);
        check.same("not below, not above", x.runIt(false, 99), 2);
    }

    /** "if the STATE goes nowhere by it, the RUN ENDS 2; else THE WATCH has that STATE, and COUNTERS as their RULES say" */
    private static void endsTwo() {
        String text = "(counter c 9 (up any))(node a (go 0 (count c less 3) a) (go 4 b))(node b (go 8 b))";
        GuardForge x = check.with(text, Build.main("guard 0, host 0, pop, jump 0"));
        check.same("the fourth time", x.runIt(false, 99), 2);
        check.same("value", x.endOf(1), 0);
        check.same("steps", x.endOf(2), 9);
        check.same("three calls", x.endOf(3), 3);
        check.same("three passed, the fourth is not", x.endOf(4), 3);
        check.same("state", x.endOf(5), 0);
        check.same("c stays where it was", x.counterOf(0, false), 3);
        check.same("load", Check.program(x, Build.main("guard 4, host 4, guard 0, host 0, return")), 0);
        check.same("nowhere from b", x.runIt(false, 99), 2);
        check.same("state b", x.endOf(5), 1);
        check.same("c", x.counterOf(0, false), 1);
        check.same("one passed", x.endOf(4), 1);
        // Nothing catches that.
        check.same("load", Check.program(x, Build.main("guard 8, push 1, return, return", Build.handler(0, 3, 3))), 0);
        check.same("no handler is for it", x.runIt(false, 99), 2);
        // A HOST without a GUARD steps nothing.
        check.same("load", Check.program(x, Build.main("host 8, host 8, return")), 0);
        check.same("not guarded", x.runIt(false, 99), 0);
        check.same("state 0", x.endOf(5), 0);
        check.same("c is 0", x.counterOf(0, false), 0);
        check.same("two calls", x.endOf(3), 2);
    }

    /** "The ANSWER of the n-th CALL OUTSIDE of a RUN is the n-th that is given, 0 if there are fewer." */
    private static void answers() {
        GuardForge x = check.with(Build.main("host 0, push 100, mul, host 0, add, push 100, mul, host 0, add, return"));
        int[] due = {0, 10000, 10200, 10203, 10203};
        for (int n = 0; n <= 4; n++) {
            check.same("run with " + n, x.runIt(false, 99), 0);
            check.same("value with " + n, x.endOf(1), due[n]);
            check.same("one more", x.addAnswer(n + 1), n + 1);
        }
        // Of a RUN: the next one begins with the first again.
        check.same("run", x.runIt(false, 99), 0);
        check.same("value", x.endOf(1), 10203);
        for (int v : EDGES) {
            x.dropAnswers();
            x.addAnswer(v);
            x.runIt(false, 99);
            check.same("answer " + v, x.traceAt(0, 4), v);
            check.same("none behind", x.traceAt(1, 4), 0);
        }
    }

    /** Promise 11: "One more ANSWER: how many there are; NONE if there are 256." and promise 12: "No ANSWERS any more." */
    private static void mostAnswers() {
        GuardForge x = check.with(Build.main("push 257, store 0, host 0, store 1, load 0, push 1, sub, dup, store 0, if 2, load 1, return"));
        x.dropAnswers();
        check.same("none", x.lookAt(8), 0);
        for (int n = 1; n <= 256; n++) {
            check.same("addAnswer", x.addAnswer(1000 + n), n);
        }
        for (int n = 0; n < 3; n++) {
            check.same("256 are all", x.addAnswer(5), -1);
            check.same("256", x.lookAt(8), 256);
        }
        check.same("run", x.runIt(false, 20000), 0);
        check.same("call 257 has none", x.endOf(1), 0);
        check.same("the first answer", x.traceAt(0, 4), 1001);
        check.same("the last answer", x.traceAt(255, 4), 1256);
        x.dropAnswers();
        check.same("none any more", x.lookAt(8), 0);
        check.same("the trace stays", x.traceAt(255, 4), 1256);
        check.same("run", x.runIt(false, 20000), 0);
        check.same("no answer", x.traceAt(0, 4), 0);
        check.same("the first again", x.addAnswer(9), 1);
        check.same("run", x.runIt(false, 20000), 0);
        check.same("it is the first", x.traceAt(0, 4), 9);
        check.same("the second is dropped", x.traceAt(1, 4), 0);
    }

    /** "the RUN ENDS 0, with its value (0 if it has no RESULT)" */
    private static void endsZero() {
        check.ends("no result", Build.program(Build.function(0, 0, 0, 0, "push 5, return")), 0, 0);
        check.ends("nothing at all", Build.program(Build.function(0, 0, 0, 0, "return")), 0, 0);
        check.ends("a result", Build.program(Build.function(0, 0, 0, 1, "push 4, push 5, return")), 0, 5);
        GuardForge x = check.with(Build.main("host 0, return"));
        for (int v : EDGES) {
            x.dropAnswers();
            x.addAnswer(v);
            check.same("ends", x.runIt(false, 9), 0);
            check.same("value", x.endOf(1), v);
        }
    }

    /** "any by THROW", and the RUN ENDS 1 "with the code as its value" */
    private static void anyCode() {
        GuardForge x = check.with(Build.main("host 0, throw"));
        GuardForge y = check.with(Build.main("host 0, throw, return", Build.handler(1, 2, 2)));
        for (int v : EDGES) {
            x.dropAnswers();
            x.addAnswer(v);
            check.same("throws " + v, x.runIt(false, 9), 1);
            check.same("code", x.endOf(1), v);
            y.dropAnswers();
            y.addAnswer(v);
            check.same("catches " + v, y.runIt(false, 9), 0);
            check.same("code", y.endOf(1), v);
        }
        // Those of DIV, GET, NEW and CALL can be caught by their codes alone.
        String[] words = {"push 1, push 0, div", "load 4, push 0, get", "push -1, new, size", "call 0"};
        for (int n = 1; n <= 4; n++) {
            int at = words[n - 1].split(",").length;
            for (int code = 0; code <= 5; code++) {
                boolean caught = code == n;
                GuardForge z = check.with(Build.main(words[n - 1] + ", return, push 50, add, return",
                        Build.handler(0, at, at + 1, code)));
                check.same("code " + n + ", handler for " + code, z.runIt(false, 20000), caught ? 0 : 1);
                check.same("value", z.endOf(1), caught ? n + 50 : n);
            }
        }
    }

    /** "the first HANDLER in whose range the INSTRUCTION is": FROM to before TO */
    private static void rangeOfHandlers() {
        for (int from = 0; from < 5; from++) {
            for (int to = from + 1; to <= 5; to++) {
                // The THROW is at 2.
                boolean caught = from <= 2 && to > 2;
                check.ends("from " + from + " to " + to, Build.main("push 9, jump 2, throw, return, return, push 1, add, return",
                        Build.handler(from, to, 5)), caught ? 0 : 1, caught ? 10 : 9);
                // And here a CALL, for what is thrown through it.
                check.ends("a call, from " + from + " to " + to, Build.program(
                        Build.function(0, 0, 0, 1, "push 9, jump 2, call 1, push 1, return, push 1, add, return",
                                Build.handler(from, to, 5)), Build.function(1, 1, 0, 0, "load 0, throw")),
                        caught ? 0 : 1, caught ? 10 : 9);
            }
        }
    }

    /** "the first HANDLER in whose range the INSTRUCTION is, and which is for any code or this one" */
    private static void firstHandler() {
        String words = "push 9, throw, push 10, add, return, push 20, add, return, push 30, add, return";
        for (int n = 0; n < 6; n++) {
            byte[][] handlers = new byte[6][];
            for (int h = 0; h < 6; h++) {
                handlers[h] = h < n ? h % 2 == 0 ? Build.handler(1, 2, 2, 8) : Build.handler(0, 1, 2)
                        : h == n ? n % 2 == 0 ? Build.handler(1, 2, 5, 9) : Build.handler(1, 2, 5) : Build.handler(1, 2, 8);
            }
            check.ends("handler " + n, Build.main(words, handlers), 0, 29);
        }
        byte[][] none = new byte[6][];
        for (int h = 0; h < 6; h++) {
            none[h] = Build.handler(1, 2, 2, 8);
        }
        check.ends("none of six", Build.main(words, none), 1, 9);
    }

    /** "there is the code alone on the STACK then, and it goes on at TARGET" */
    private static void codeAlone() {
        // Sixteen are on the stack when it throws, and room for fifteen more behind it.
        for (int n = 0; n <= 15; n++) {
            check.ends(n + " below", Build.main(Build.times(n, "push 5", "push 9, throw, " + Build.times(15, "push 1", "")
                    + Build.times(15, "add", "return")), Build.handler(0, n + 2, n + 2)), 0, 9 + 15);
        }
        // In a FUNCTION far down, and the stacks of those that began it stay.
        byte[] down = Build.function(1, 1, 0, 1, "push 1000, load 0, load 0, ifnot 11, load 0, push 1, sub, call 1, add, add, return, "
                + "push 5, throw, push 7, add, return", Build.handler(12, 13, 13));
        check.ends("thirty-nine down", Build.program(Build.function(0, 0, 0, 1, "push 100000, push 38, call 1, add, return"), down), 0,
                100000 + 38 * 1000 + 38 * 39 / 2 + 12);
        // What is put behind the code stays, whatever a FUNCTION that is called then puts.
        for (int n = 0; n <= 3; n++) {
            byte[][] functions = new byte[5][];
            for (int f = 0; f < 4; f++) {
                functions[f] = Build.function(0, 0, 0, 1, f == n ? "push 1, throw, push 50, call 4, pop, add, return"
                        : "jump 1, call " + Math.min(3, f + 1) + ", return, return, return, return, return", Build.handler(1, 2, 2));
            }
            functions[4] = Build.function(0, 0, 0, 1, Build.times(16, "push 9", "return"));
            check.ends("caught in " + n + ", and another one is called", Build.program(functions), 0, 51);
        }
        // Again and again, with more and more below: it never fills up.
        check.ends("for ever", Build.main("push 1, push 2, throw, pop, jump 0", Build.handler(0, 3, 3)), 3, 0);
        check.ends("a handler in its own range", Build.main("push 1, throw", Build.handler(0, 2, 1)), 3, 0);
        // LOCALS stay.
        check.ends("locals", Build.main("push 6, store 0, push 8, throw, load 0, add, return", Build.handler(3, 4, 4)), 0, 14);
    }

    /** "If there is none, the FUNCTION is done no more, and the code is THROWN by the CALL that began it; by none for FUNCTION 0" */
    private static void thrownByTheCall() {
        for (int depth = 1; depth <= 11; depth++) {
            for (int catches = 0; catches <= depth; catches++) {
                byte[][] functions = new byte[depth + 1][];
                for (int f = 0; f <= depth; f++) {
                    String words = (f == depth ? "push 9, throw" : "jump 1, call " + (f + 1)) + ", return, push "
                            + 100 * (f + 1) + ", add, return";
                    functions[f] = f == catches ? Build.function(0, 0, 0, 1, words, Build.handler(0, 2, 3))
                            : Build.function(0, 0, 0, 1, words, Build.handler(0, 2, 3, 77));
                }
                check.ends("thrown in " + depth + ", caught in " + catches, Build.program(functions), 0, 9 + 100 * (catches + 1));
            }
        }
        byte[] thrower = Build.function(0, 0, 0, 0, "push 9, throw, return", Build.handler(0, 1, 2), Build.handler(1, 2, 2, 8));
        GuardForge x = check.with(Build.program(Build.function(0, 0, 0, 1, "call 1, push 1, return, return", Build.handler(1, 3, 3)), thrower));
        check.same("by none", x.runIt(false, 99), 1);
        check.same("code", x.endOf(1), 9);
        check.same("steps", x.endOf(2), 3);
        check.same("two were done", x.endOf(7), 2);
    }

    /** "When FUNCTION 0 RETURNS the RUN ENDS 0": the one with which the RUN began; one that a CALL began goes back to it */
    private static void functionZeroAgain() {
        GuardForge x = check.with(Build.main("host 0, if 6, call 0, push 3, add, return, push 10, return"));
        x.addAnswer(0);
        x.addAnswer(0);
        x.addAnswer(1);
        check.same("three times", x.runIt(false, 99), 0);
        check.same("value", x.endOf(1), 16);
        check.same("three at once", x.endOf(7), 3);
        x = check.with(Build.main("host 0, if 5, call 0, return, throw, push 10, throw, push 3, add, return", Build.handler(2, 3, 7)));
        x.addAnswer(0);
        x.addAnswer(1);
        check.same("thrown by the CALL that began it", x.runIt(false, 99), 0);
        check.same("value", x.endOf(1), 13);
    }

    /** Promise 14: "what 0 .. 7 .. NONE if .. no such what" */
    private static void endOf() {
        GuardForge x = check.with("(counter c 5 (up 0))(node a (go 0 b))(node b (go 4 b))",
                Build.program(Build.function(0, 1, 1, 1, "push 3, new, store 0, guard 0, host 0, pop, call 1, return"),
                        Build.function(0, 0, 0, 1, "push 4, new, size, guard 4, host 4, add, return")));
        x.addAnswer(1);
        x.addAnswer(20);
        check.same("ends", x.runIt(false, 99), 0);
        int[] due = {0, 24, 13, 2, 2, 1, 7, 2};
        for (int what = 0; what < 8; what++) {
            check.same("endOf(" + what + ")", x.endOf(what), due[what]);
        }
        for (int what : new int[] {-1, 8, 9, LOW, HIGH}) {
            check.same("endOf(" + what + ")", x.endOf(what), -1);
        }
        check.same("nothing of it has changed", x.endOf(1), 24);
        // "(0 if it ended 2 or 3)"
        check.same("fuel is gone", x.runIt(false, 10), 3);
        check.same("value", x.endOf(1), 0);
        check.same("load", Check.program(x, Build.main("push 9, guard 4, return")), 0);
        check.same("stopped", x.runIt(false, 10), 2);
        check.same("value", x.endOf(1), 0);
        check.same("no guard was passed", x.endOf(4), 0);
    }

    private static void noRun(String name, GuardForge x) {
        for (int what = -1; what <= 8; what++) {
            check.same(name + ": endOf(" + what + ")", x.endOf(what), -1);
        }
        for (int what = -1; what <= 5; what++) {
            check.same(name + ": traceAt(0, " + what + ")", x.traceAt(0, what), 0);
        }
        check.same(name + ": counterOf(0, false)", x.counterOf(0, false), -1);
    }

    /** "NONE if there was none since the latest loadPolicy() or loadProgram() that answered 0" */
    private static void noRunSince() {
        String text = "(counter c 5 (up 0))(node a (go any a))";
        GuardForge x = check.with(text);
        noRun("no program", x);
        check.same("load", Check.program(x, Build.main("push 6, guard 1, host 1, return")), 0);
        noRun("not yet", x);
        check.same("runIt that is refused", x.runIt(false, 20001), -1);
        noRun("not yet", x);
        for (int n = 0; n < 2; n++) {
            check.same("run", x.runIt(false, 9), 0);
            check.same("endOf", x.endOf(2), 3);
            check.same("traceAt", x.traceAt(0, 1), 6);
            check.same("counterOf", x.counterOf(0, false), 0);
            check.same("a policy with a fault", Check.policy(x, "(node a"), 3);
            check.same("a program with a fault", Check.program(x, Build.main("pop, return")), 5);
            check.same("the run stays", x.endOf(2), 3);
            check.same("its trace stays", x.traceAt(0, 1), 6);
            check.same("its counter stays", x.counterOf(0, false), 0);
            if (n == 0) {
                check.same("policy", Check.policy(x, text), 0);
                noRun("behind loadPolicy", x);
            } else {
                check.same("program", Check.program(x, Build.main("push 6, guard 1, host 1, return")), 0);
                noRun("behind loadProgram", x);
            }
        }
        // What else is done leaves it.
        check.same("run", x.runIt(false, 9), 0);
        x.addAnswer(5);
        x.dropAnswers();
        x.resetWatch();
        x.watchCall(0, 0, 0, 0);
        x.forgeIt();
        x.saveProgram(false);
        x.turnBytes();
        x.cutBytes(0);
        check.same("the run is there", x.endOf(2), 3);
        check.same("its answer", x.traceAt(0, 4), 0);
        check.same("its counter", x.counterOf(0, false), 0);
    }

    /** Promise 15: "from 0 on (the first 256 are kept)", "0 if it is not kept, or there is none such, no such what, or no RUN" */
    private static void keptCalls() {
        GuardForge x = check.with(Build.main("push 1, store 0, load 0, push 2, push 3, host 3, pop, load 0, push 1, add, dup, store 0, "
                + "push 259, less, if 2, push 1, return"));
        x.addAnswer(77);
        check.same("run", x.runIt(false, 20000), 0);
        check.same("258 calls", x.endOf(3), 258);
        for (int i : new int[] {0, 1, 254, 255}) {
            int[] due = {3, i + 1, 2, 3, i == 0 ? 77 : 0};
            for (int what = 0; what < 5; what++) {
                check.same("traceAt(" + i + ", " + what + ")", x.traceAt(i, what), due[what]);
            }
            for (int what : new int[] {-1, 5, 6, LOW, HIGH}) {
                check.same("traceAt(" + i + ", " + what + ")", x.traceAt(i, what), 0);
            }
        }
        for (int i : new int[] {-1, 256, 257, 258, 1000, LOW, HIGH}) {
            for (int what = 0; what < 5; what++) {
                check.same("traceAt(" + i + ", " + what + ")", x.traceAt(i, what), 0);
            }
        }
        // A shorter RUN has none of the longer one's.
        check.same("run", x.runIt(false, 6 + 12), 3);
        check.same("one call", x.endOf(3), 1);
        check.same("it", x.traceAt(0, 1), 1);
        check.same("none such", x.traceAt(1, 0), 0);
        check.same("none such", x.traceAt(1, 1), 0);
        check.same("no steps, no calls", x.runIt(false, 0), 3);
        check.same("none at all", x.traceAt(0, 0), 0);
    }

    /** Promise 16: "NONE if there is none such" */
    private static void countersOfTheRun() {
        for (int n = 0; n <= 6; n++) {
            GuardForge x = check.with(Build.named(n, "(counter ", " 15 (up 0))") + "(node a (go any a))",
                    Build.main("guard 0, host 0, return"));
            x.watchCall(0, 0, 0, 0);
            x.watchCall(0, 0, 0, 0);
            check.same("run", x.runIt(false, 9), 0);
            for (int k = -1; k <= 7; k++) {
                boolean there = k >= 0 && k < n;
                check.same("counterOf(" + k + ", false) of " + n, x.counterOf(k, false), there ? 1 : -1);
                check.same("counterOf(" + k + ", true) of " + n, x.counterOf(k, true), there ? 2 : -1);
            }
            for (int k : new int[] {LOW, HIGH}) {
                check.same("counterOf(" + k + ", false)", x.counterOf(k, false), -1);
                check.same("counterOf(" + k + ", true)", x.counterOf(k, true), -1);
            }
        }
    }

    /** "THE WATCH is a STATE, 0 at first, and the COUNTERS, 0 at first", "STEPS (0 at first)", in each RUN */
    private static void nextRun() {
        GuardForge x = check.with("(counter c 5 (up 0))(node a (go 0 b))(node b (go 0 b) (go 4 b))",
                Build.main("guard 0, host 0, pop, push 9, new, store 4, call 0, return"));
        int[] first = new int[8];
        for (int n = 0; n < 3; n++) {
            check.same("run", x.runIt(false, 200), n == 0 ? 3 : first[0]);
            for (int what = 0; what < 8; what++) {
                first[what] = n == 0 ? x.endOf(what) : first[what];
                check.same("endOf(" + what + ") again", x.endOf(what), first[what]);
            }
            check.same("steps", x.endOf(2), 200);
            check.same("state", x.endOf(5), 1);
            check.same("c at most 5", x.counterOf(0, false), 5);
            // THE WATCH that is stepped by watchCall() is another one.
            check.same("the other one", x.lookAt(13), 0);
            check.same("its counter", x.counterOf(0, true), 0);
        }
        check.same("a run of nothing", x.runIt(false, 0), 3);
        int[] due = {3, 0, 0, 0, 0, 0, 0, 1};
        for (int what = 0; what < 8; what++) {
            check.same("endOf(" + what + ") of nothing", x.endOf(what), due[what]);
        }
        check.same("c", x.counterOf(0, false), 0);
    }
}
