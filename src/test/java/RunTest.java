/** Promises 11 to 16: answers, runs, how they end, their traces and counters. */
public final class RunTest {
    private static final Check check = new Check("RunTest");
    private static final int LOW = Integer.MIN_VALUE;
    private static final int HIGH = Integer.MAX_VALUE;

    public static void main(String[] args) {
        reckoning();
        stackAndLocals();
        jumps();
        rows();
        roomForRows();
        functions();
        depth();
        functionZeroCallsItself();
        thrown();
        handlerOrder();
        thrownThroughCalls();
        answers();
        trace();
        fuel();
        guards();
        guardsAndCounters();
        noRun();
        check.end();
    }

    private static void value(String words, int value) {
        check.ends(words, Build.main(words), 0, value);
    }

    private static void code(String words, int code) {
        check.ends(words, Build.main(words), 1, code);
    }

    private static void two(int a, int b, String word, int due) {
        value("push " + a + ", push " + b + ", " + word + ", return", due);
    }

    private static void reckoning() {
        two(7, 5, "add", 12);
        two(HIGH, 1, "add", LOW);
        two(7, 5, "sub", 2);
        two(LOW, 1, "sub", HIGH);
        two(-7, 5, "mul", -35);
        two(65536, 65537, "mul", 65536);
        two(7, 2, "div", 3);
        two(-7, 2, "div", -3);
        two(7, -2, "div", -3);
        two(LOW, -1, "div", LOW);
        two(7, 2, "rem", 1);
        two(-7, 2, "rem", -1);
        two(7, -2, "rem", 1);
        two(LOW, -1, "rem", 0);
        two(12, 10, "and", 8);
        two(12, 10, "or", 14);
        two(12, 10, "xor", 6);
        two(3, 4, "shl", 48);
        two(3, 36, "shl", 48);
        two(1, -1, "shl", LOW);
        two(-16, 2, "shr", -4);
        two(-16, 34, "shr", -4);
        two(HIGH, 31, "shr", 0);
        two(LOW, 31, "shr", -1);
        two(3, 4, "less", 1);
        two(4, 4, "less", 0);
        two(HIGH, LOW, "less", 0);
        two(LOW, HIGH, "less", 1);
        two(4, 4, "same", 1);
        two(4, -4, "same", 0);
    }

    private static void stackAndLocals() {
        value("push 1, push 2, pop, return", 1);
        value("push 3, dup, mul, return", 9);
        value("push 1, push 2, swap, sub, return", 1);
        value("load 3, return", 0);
        value("push 9, store 3, push 1, load 3, return", 9);
        value("load 4, size, return", 0);
        value("push 5, push 6, return", 6);
        check.ends("no result", Build.program(Build.function(0, 0, 0, 0, "push 5, return")), 0, 0);
    }

    private static void jumps() {
        value("jump 2, return, push 4, jump 1", 4);
        value("push 0, if 4, push 1, return, push 2, return", 1);
        value("push -3, if 4, push 1, return, push 2, return", 2);
        value("push 0, ifnot 4, push 1, return, push 2, return", 2);
        value("push -3, ifnot 4, push 1, return, push 2, return", 1);
        // The sum of 1 .. 10.
        value("push 10, store 0, load 1, load 0, add, store 1, load 0, push 1, sub, dup, store 0, if 2, load 1, return", 55);
    }

    private static void rows() {
        value("push 3, new, size, return", 3);
        value("push 0, new, size, return", 0);
        value("push 256, new, size, return", 256);
        value("push 3, new, pop, push 5, new, size, return", 5);
        value("push 3, new, push 2, get, return", 0);
        value("push 3, new, dup, push 2, push 77, put, push 2, get, return", 77);
        // Two rows are apart, and one row that two locals have is one.
        value("push 2, new, store 4, push 2, new, store 5, load 4, push 1, push 8, put, load 5, push 1, get, return", 0);
        value("push 2, new, store 4, load 4, store 5, load 4, push 1, push 8, put, load 5, push 1, get, return", 8);
        value("push 2, new, store 4, push 2, new, store 5, load 5, push 0, push 8, put, load 4, push 1, get, return", 0);
        code("push 3, new, push 3, get, return", 2);
        code("push 3, new, push -1, get, return", 2);
        code("push 3, new, push -2147483648, get, return", 2);
        code("push 3, new, push 3, push 5, put, push 1, return", 2);
        code("push 3, new, push -1, push 5, put, push 1, return", 2);
        code("load 4, push 0, get, return", 2);
        code("load 4, push 0, push 1, put, push 1, return", 2);
        code("push 0, new, push 0, get, return", 2);
        code("push -1, new, size, return", 3);
        code("push 257, new, size, return", 3);
        code("push 2147483647, new, size, return", 3);
        code("push -2147483648, new, size, return", 3);
    }

    private static void roomForRows() {
        GuardForge x = check.with(Build.main("push 16, store 0, push 256, new, pop, load 0, push 1, sub, dup, store 0, if 2, "
                + "push 0, new, size, return"));
        check.same("just 4096", x.runIt(false, 20000), 0);
        check.same("ints of all rows", x.endOf(6), 4096);
        x = check.with(Build.main("push 16, store 0, push 256, new, pop, load 0, push 1, sub, dup, store 0, if 2, "
                + "push 1, new, size, return"));
        check.same("one too many", x.runIt(false, 20000), 1);
        check.same("its code", x.endOf(1), 3);
        check.same("ints of all rows", x.endOf(6), 4096);
        check.same("the next run has room again", x.runIt(false, 20), 3);
        check.same("ints of that", x.endOf(6), 512);
        // A row is all 0, also where an earlier run had something.
        x = check.with(Build.main("push 1, new, dup, push 0, get, store 0, push 0, push 9, put, load 0, return"));
        check.same("first", x.runIt(false, 100), 0);
        check.same("0 at first", x.endOf(1), 0);
        check.same("second", x.runIt(false, 100), 0);
        check.same("0 at first again", x.endOf(1), 0);
    }

    private static void functions() {
        check.ends("parameters in their order", Build.program(
                Build.function(0, 0, 0, 1, "push 10, push 3, call 1, return"),
                Build.function(2, 2, 0, 1, "load 0, load 1, sub, return")), 0, 7);
        check.ends("locals are their own", Build.program(
                Build.function(0, 2, 0, 1, "push 5, store 1, push 1, call 1, load 1, return"),
                Build.function(1, 2, 0, 0, "push 9, store 1, return")), 0, 5);
        check.ends("locals are 0 in each call", Build.program(
                Build.function(0, 0, 0, 1, "call 1, call 1, add, return"),
                Build.function(0, 1, 0, 1, "load 0, push 9, store 0, return")), 0, 0);
        check.ends("also where the stack had something", Build.program(
                Build.function(0, 0, 0, 1, "push 1, push 9, pop, call 1, return"),
                Build.function(1, 2, 0, 1, "load 1, return")), 0, 0);
        check.ends("a row goes in and comes out", Build.program(
                Build.function(0, 1, 1, 1, "push 2, new, dup, store 0, call 1, push 1, get, load 0, push 1, get, add, return"),
                Build.function(1, 1, 1, 2, "load 0, push 1, push 21, put, load 0, return")), 0, 42);
        check.ends("what is below a call stays", Build.program(
                Build.function(0, 0, 0, 1, "push 100, push 20, push 3, call 1, sub, sub, return"),
                Build.function(1, 1, 0, 1, "push 7, push 8, load 0, return")), 0, 83);
        check.ends("no result", Build.program(
                Build.function(0, 0, 0, 1, "push 4, call 1, return"), Build.function(0, 0, 0, 0, "push 8, return")), 0, 4);
        // The row of a local is of no ints in each call, also where another call had one.
        check.ends("rows of locals at first", Build.program(
                Build.function(0, 0, 0, 1, "call 1, call 1, add, return"),
                Build.function(0, 1, 1, 1, "load 0, size, push 5, new, store 0, return")), 0, 0);
    }

    private static void depth() {
        GuardForge x = check.with(Build.program(Build.function(0, 0, 0, 1, "push 38, call 1, return"),
                Build.function(1, 1, 0, 1, "load 0, ifnot 7, load 0, push 1, sub, call 1, return, push 5, return")));
        check.same("40 at once", x.runIt(false, 20000), 0);
        check.same("value", x.endOf(1), 5);
        check.same("most", x.endOf(7), 40);
        x = check.with(Build.program(Build.function(0, 0, 0, 1, "push 39, call 1, return"),
                Build.function(1, 1, 0, 1, "load 0, ifnot 7, load 0, push 1, sub, call 1, return, push 5, return")));
        check.same("41 at once", x.runIt(false, 20000), 1);
        check.same("code", x.endOf(1), 4);
        check.same("most", x.endOf(7), 40);
        x = check.with(Build.program(Build.function(0, 0, 0, 1, "call 1, return"),
                Build.function(0, 1, 0, 1, "call 1, return, push 1, add, return", Build.handler(0, 1, 2, 4))));
        check.same("caught by the one that calls", x.runIt(false, 20000), 0);
        check.same("the code and 1", x.endOf(1), 5);
        check.same("most", x.endOf(7), 40);
        check.same("40 CALLS, the last one throws; 2 that add 1; 40 RETURNS", x.endOf(2), 40 + 2 + 40);
        x = check.with(Build.main("push 1, return"));
        x.runIt(false, 0);
        check.same("FUNCTION 0 alone", x.endOf(7), 1);
    }

    private static void functionZeroCallsItself() {
        // It is a CALL like others: what comes back goes on behind it.
        GuardForge x = check.with(Build.main("host 0, if 6, call 0, push 3, add, return, push 10, return"));
        x.addAnswer(0);
        x.addAnswer(1);
        check.same("ends", x.runIt(false, 100), 0);
        check.same("10 and 3", x.endOf(1), 13);
        check.same("most", x.endOf(7), 2);
    }

    private static void thrown() {
        code("push 5, push 0, div, return", 1);
        code("push 5, push 0, rem, return", 1);
        code("push -77, throw", -77);
        code("push 0, throw", 0);
        check.ends("any code", Build.main("push 5, push 0, div, return, return", Build.handler(0, 3, 4)), 0, 1);
        check.ends("this code", Build.main("push 5, push 0, div, return, return", Build.handler(2, 3, 4, 1)), 0, 1);
        check.ends("another code", Build.main("push 5, push 0, div, return, return", Build.handler(2, 3, 4, 2)), 1, 1);
        check.ends("ahead of its range", Build.main("push 5, push 0, div, return, return", Build.handler(3, 4, 4)), 1, 1);
        check.ends("behind its range", Build.main("push 5, push 0, div, return, return", Build.handler(0, 2, 4)), 1, 1);
        check.ends("the code is alone on the stack", Build.main("push 5, push 9, push 0, div, return, push 3, add, return",
                Build.handler(0, 4, 5)), 0, 4);
        check.ends("locals stay", Build.main("push 6, store 0, push 8, throw, load 0, add, return", Build.handler(3, 4, 4)), 0, 14);
        check.ends("thrown in a handler", Build.main("push 1, throw, push 1, add, throw, return",
                Build.handler(1, 2, 2), Build.handler(4, 5, 5)), 0, 2);
        // A handler whose range has its own target: for ever, as long as there is fuel.
        check.ends("again and again", Build.main("push 1, throw", Build.handler(0, 2, 1)), 3, 0);
        // What was on the stack is gone each time, however often it throws.
        check.ends("with more and more below", Build.main("push 1, push 2, throw, pop, jump 0", Build.handler(0, 3, 3)), 3, 0);
        GuardForge x = check.with(Build.main("push 5, push 0, div, return, return", Build.handler(0, 3, 4)));
        x.runIt(false, 100);
        check.same("one that throws is a step", x.endOf(2), 4);
    }

    private static void handlerOrder() {
        check.ends("the first that is for it", Build.main("push 7, throw, push 1, add, return, push 2, add, return",
                Build.handler(1, 2, 5, 7), Build.handler(1, 2, 2)), 0, 9);
        check.ends("the first of any", Build.main("push 7, throw, push 1, add, return, push 2, add, return",
                Build.handler(1, 2, 2), Build.handler(1, 2, 5, 7)), 0, 8);
        check.ends("the second that is for it", Build.main("push 7, throw, push 1, add, return, push 2, add, return",
                Build.handler(1, 2, 2, 8), Build.handler(1, 2, 5)), 0, 9);
        check.ends("a code below 0", Build.main("push -7, throw, return", Build.handler(1, 2, 2, -7)), 0, -7);
    }

    private static void thrownThroughCalls() {
        byte[] thrower = Build.function(1, 1, 0, 0, "load 0, throw");
        check.ends("to the call", Build.program(
                Build.function(0, 0, 0, 1, "push 50, push 60, call 1, return, push 1, add, return", Build.handler(2, 3, 4)),
                thrower), 0, 61);
        check.ends("through two", Build.program(
                Build.function(0, 0, 0, 1, "push 60, call 2, push 0, return, push 1, add, return", Build.handler(1, 2, 4, 60)),
                thrower, Build.function(1, 1, 0, 0, "load 0, call 1, return, return", Build.handler(0, 1, 3),
                        Build.handler(1, 2, 3, 5))),
                0, 61);
        check.ends("by none", Build.program(Build.function(0, 0, 0, 1, "push 60, call 1, push 0, return"), thrower), 1, 60);
        GuardForge x = check.with(Build.program(
                Build.function(0, 1, 0, 1, "push 60, call 1, push 0, return, push 61, call 1, return",
                        Build.handler(1, 2, 4)), thrower));
        check.same("thrown twice", x.runIt(false, 100), 1);
        check.same("the second code", x.endOf(1), 61);
        check.same("most at once", x.endOf(7), 2);
    }

    private static void answers() {
        GuardForge x = check.with(Build.main("host 0, host 0, host 0, push 100, mul, add, push 100, mul, add, return"));
        check.same("first", x.addAnswer(1), 1);
        check.same("second", x.addAnswer(-2), 2);
        check.same("how many", x.lookAt(8), 2);
        check.same("run", x.runIt(false, 100), 0);
        check.same("0 where there are fewer", x.endOf(1), -199);
        check.same("third", x.addAnswer(3), 3);
        check.same("run", x.runIt(false, 100), 0);
        check.same("all three", x.endOf(1), 29801);
        check.same("answers stay behind a run", x.lookAt(8), 3);
        x.dropAnswers();
        check.same("none any more", x.lookAt(8), 0);
        check.same("the run stays", x.endOf(1), 29801);
        check.same("run", x.runIt(false, 100), 0);
        check.same("all 0", x.endOf(1), 0);
        for (int k = 1; k <= 256; k++) {
            check.same("addAnswer", x.addAnswer(k), k);
        }
        check.same("256 are all", x.addAnswer(7), -1);
        check.same("still 256", x.lookAt(8), 256);
        check.same("run", x.runIt(false, 100), 0);
        check.same("1, 2, 3", x.endOf(1), 30201);
        x.dropAnswers();
        check.same("room again", x.addAnswer(9), 1);
    }

    private static void trace() {
        GuardForge x = check.with(Build.main("host 4, push 11, host 1, push 21, push 22, host 6, push 31, push 32, push 33, "
                + "host 15, return"));
        for (int k = 1; k <= 3; k++) {
            x.addAnswer(k * 7);
        }
        check.same("run", x.runIt(false, 100), 0);
        check.same("calls outside", x.endOf(3), 4);
        int[][] due = {{4, 0, 0, 0, 7}, {1, 11, 0, 0, 14}, {6, 21, 22, 0, 21}, {15, 31, 32, 33, 0}};
        for (int i = 0; i < 4; i++) {
            for (int what = 0; what < 5; what++) {
                check.same("traceAt(" + i + ", " + what + ")", x.traceAt(i, what), due[i][what]);
            }
            check.same("what -1", x.traceAt(i, -1), 0);
            check.same("what 5", x.traceAt(i, 5), 0);
        }
        for (int i : new int[] {-1, 4, 256, LOW, HIGH}) {
            check.same("traceAt(" + i + ", 0)", x.traceAt(i, 0), 0);
        }
        // The first 256 are kept, all are counted.
        x = check.with(Build.main("push 300, store 0, load 0, host 1, pop, load 0, push 1, sub, dup, store 0, if 2, push 1, return"));
        check.same("run", x.runIt(false, 20000), 0);
        check.same("300 calls", x.endOf(3), 300);
        check.same("the last one kept", x.traceAt(255, 1), 45);
        check.same("its number", x.traceAt(255, 0), 1);
        check.same("not kept", x.traceAt(256, 0), 0);
        check.same("not kept", x.traceAt(256, 1), 0);
        // A shorter run leaves nothing of the longer one.
        check.same("run", x.runIt(false, 10), 3);
        check.same("one call", x.endOf(3), 1);
        check.same("it is kept", x.traceAt(0, 1), 300);
        check.same("the second is not there", x.traceAt(1, 1), 0);
    }

    private static void fuel() {
        GuardForge x = check.with(Build.main("push 1, push 2, add, return"));
        int[] due = {3, 3, 3, 3, 0, 0};
        for (int n = 0; n < due.length; n++) {
            check.same("runIt with " + n, x.runIt(false, n), due[n]);
            check.same("steps with " + n, x.endOf(2), Math.min(n, 4));
            check.same("value with " + n, x.endOf(1), n < 4 ? 0 : 3);
        }
        check.same("fuel -1", x.runIt(false, -1), -1);
        check.same("fuel 20001", x.runIt(false, 20001), -1);
        check.same("fuel min", x.runIt(false, LOW), -1);
        check.same("nothing forged", x.runIt(true, 5), -1);
        check.same("the latest run stays", x.endOf(1), 3);
        check.same("fuel 20000", x.runIt(false, 20000), 0);
        x = check.with(Build.main("jump 0"));
        check.same("for ever", x.runIt(false, 20000), 3);
        check.same("20000 steps", x.endOf(2), 20000);
        // Guards are no steps, but ahead of one fuel is looked at.
        x = check.with(Build.main("guard 0, guard 0, host 0, return"));
        check.same("fuel 0", x.runIt(false, 0), 3);
        check.same("no guard is passed", x.endOf(4), 0);
        check.same("fuel 1", x.runIt(false, 1), 3);
        check.same("both are passed", x.endOf(4), 2);
        check.same("fuel 2", x.runIt(false, 2), 0);
        check.same("two steps", x.endOf(2), 2);
        x = check.with(Build.main("push 1, guard 0, guard 0, return"));
        check.same("fuel is gone ahead of a guard", x.runIt(false, 1), 3);
        check.same("so it is not passed", x.endOf(4), 0);
    }

    private static void guards() {
        GuardForge x = new GuardForge();
        check.same("policy", Check.policy(x, "(node a (go 1 (arg 0 less 5) b)) (node b (go 2 (arg 1 same 7) a))"), 0);
        check.same("program", Check.program(x, Build.main("push 3, host 1, push 7, host 2, load 0, host 1, return")), 0);
        check.same("the program itself is not stopped", x.runIt(false, 100), 0);
        check.same("its watch stays", x.endOf(5), 0);
        check.same("no guards", x.endOf(4), 0);
        check.same("forge", x.forgeIt(), 3);
        check.same("run", x.runIt(true, 100), 0);
        check.same("guards passed", x.endOf(4), 3);
        check.same("steps", x.endOf(2), 7);
        check.same("state", x.endOf(5), 1);
        check.same("calls", x.endOf(3), 3);
        check.same("program", Check.program(x, Build.main("push 3, host 1, push 6, host 2, push 0, host 1, return")), 0);
        check.same("forge", x.forgeIt(), 3);
        check.same("stopped", x.runIt(true, 100), 2);
        check.same("value", x.endOf(1), 0);
        check.same("one guard was passed", x.endOf(4), 1);
        check.same("one call was done", x.endOf(3), 1);
        check.same("steps ahead of it", x.endOf(2), 3);
        check.same("state", x.endOf(5), 1);
        check.same("a guard looks at the upper ones", x.traceAt(0, 1), 3);
        check.same("program", Check.program(x, Build.main("push 7, guard 1, host 1, return")), 0);
        check.same("stopped at once", x.runIt(false, 100), 2);
        check.same("none was passed", x.endOf(4), 0);
        check.same("no call", x.endOf(3), 0);
    }

    private static void guardsAndCounters() {
        GuardForge x = new GuardForge();
        check.same("policy", Check.policy(x, "(counter c 9 (up 0)) (counter d 2 (up 0 (count c more 1))) "
                + "(node a (go 0 (count c less 4) a))"), 0);
        check.same("program", Check.program(x, Build.main("host 0, pop, jump 0")), 0);
        check.same("forge", x.forgeIt(), 1);
        check.same("stopped", x.runIt(true, 1000), 2);
        check.same("four calls", x.endOf(3), 4);
        check.same("c", x.counterOf(0, false), 4);
        check.same("d", x.counterOf(1, false), 2);
        check.same("no counter 2", x.counterOf(2, false), -1);
        check.same("no counter -1", x.counterOf(-1, false), -1);
        check.same("the other watch", x.counterOf(0, true), 0);
        check.same("each run begins anew", x.runIt(true, 4), 3);
        check.same("two calls", x.endOf(3), 2);
        check.same("c", x.counterOf(0, false), 2);
    }

    private static void noRun() {
        GuardForge x = new GuardForge();
        check.same("no program", x.runIt(false, 10), -1);
        for (int what = -1; what <= 8; what++) {
            check.same("endOf without a run", x.endOf(what), -1);
        }
        check.same("program", Check.program(x, Build.main("host 0, return")), 0);
        check.same("no run yet", x.endOf(0), -1);
        x.addAnswer(5);
        check.same("run", x.runIt(false, 10), 0);
        check.same("endOf(-1)", x.endOf(-1), -1);
        check.same("endOf(8)", x.endOf(8), -1);
        check.same("endOf(max)", x.endOf(HIGH), -1);
        check.same("trace", x.traceAt(0, 4), 5);
        check.same("policy", Check.policy(x, "(counter c 3 (up any)) (node a (go any a))"), 0);
        check.same("no run any more", x.endOf(0), -1);
        check.same("no trace any more", x.traceAt(0, 4), 0);
        check.same("no counter of it", x.counterOf(0, false), -1);
        check.same("answers stay", x.lookAt(8), 1);
        check.same("run", x.runIt(false, 10), 0);
        check.same("counter of it", x.counterOf(0, false), 0);
        check.same("program", Check.program(x, Build.main("host 0, return")), 0);
        check.same("no run any more", x.endOf(0), -1);
        check.same("no counter of it", x.counterOf(0, false), -1);
    }
}
