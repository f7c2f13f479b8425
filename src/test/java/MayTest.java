/** Promises 10, 21 and 22: states that may be, what needs a guard, what is guarded, what is certified. */
public final class MayTest {
    private static final Check check = new Check("MayTest");

    /** States: a 0, b 1, c 2; call 0 goes round a, b, c, call 4 stays everywhere, call 8 leads from b to c alone. */
    private static final String ROUND = "(node a (go 0 b) (go 4 a)) (node b (go 0 c) (go 4 b) (go 8 c)) "
            + "(node c (go 0 a) (go 4 c))";

    public static void main(String[] args) {
        straight();
        branches();
        loops();
        nowhere();
        calls();
        waysOut();
        recursion();
        handlers();
        handlersOfCalls();
        needs();
        guarded();
        certified();
        byPolicy();
        check.end();
    }

    private static void may(GuardForge x, int function, long... due) {
        for (int i = 0; i < due.length; i++) {
            check.same("mayOf(" + function + ", " + i + ")", x.mayOf(false, function, i), due[i]);
        }
        check.same("mayOf behind", x.mayOf(false, function, due.length), 0);
    }

    private static void straight() {
        GuardForge x = new GuardForge();
        check.same("loadProgram by the first policy", Check.program(x, Build.plain("host 0, host 7, return")), 5);
        check.same("loadProgram by the first policy", Check.program(x, Build.plain("host 0, host 1, return")), 0);
        may(x, 0, 1, 1, 1);
        check.same("needs nothing", x.certifyIt(false), 0);
        x = check.with(ROUND, Build.plain("host 0, host 4, host 0, host 0, return"));
        check.same("states", x.lookAt(4), 3);
        may(x, 0, 1, 2, 2, 4, 1);
        x = check.with(ROUND, Build.plain("guard 0, host 0, guard 0, host 4, return"));
        // The second guard's call is another one, so the HOST behind it is not guarded.
        may(x, 0, 1, 2, 2, 4, 4);
    }

    private static void branches() {
        GuardForge x = check.with(ROUND, Build.plain("load 0, ifnot 4, host 0, pop, host 0, pop, return"));
        may(x, 0, 1, 1, 1, 2, 3, 6, 6);
        x = check.with(ROUND, Build.plain("load 0, if 5, host 0, pop, jump 6, return, host 8, return"));
        may(x, 0, 1, 1, 1, 2, 2, 1, 2, 4);
    }

    private static void loops() {
        GuardForge x = check.with(ROUND, Build.plain("host 0, if 0, host 4, return"));
        may(x, 0, 7, 7, 7, 7);
        x = check.with(ROUND, Build.plain("host 0, pop, host 4, if 2, return"));
        may(x, 0, 1, 2, 2, 2, 2);
    }

    private static void nowhere() {
        // From a by 8 it goes nowhere, so there is nothing behind.
        GuardForge x = check.with(ROUND, Build.plain("host 8, pop, host 0, return"));
        may(x, 0, 1, 0, 0, 0);
        // By arguments: letters of one call lead here and there.
        x = check.with("(node a (go 1 (arg 0 less 5) b) (go 1 (arg 0 more 9) c)) (node b (go 2 b)) (node c (go 3 c))",
                Build.plain("push 1, host 1, return"));
        check.same("states", x.lookAt(4), 3);
        may(x, 0, 1, 1, 6);
    }

    private static void calls() {
        byte[] row = Build.program(Build.function(0, 0, 0, 0, "call 1, host 4, pop, call 2, return"),
                Build.function(0, 0, 0, 0, "host 0, return"), Build.function(0, 0, 0, 0, "host 0, return"));
        GuardForge x = check.with(ROUND, row);
        may(x, 0, 1, 2, 2, 2, 4);
        may(x, 1, 1, 2);
        may(x, 2, 2, 4);
        // What comes out of a function comes out of it anywhere: b behind the first call, so b goes into it ..
        row = Build.program(Build.function(0, 0, 0, 0, "call 1, call 1, return"),
                Build.function(0, 0, 0, 0, "host 0, return"), Build.function(0, 0, 0, 0, "host 0, return"));
        x = check.with(ROUND, row);
        may(x, 0, 1, 7, 7);
        may(x, 1, 7, 7);
        may(x, 2, 0, 0);
    }

    /** States a 0, b 1, c 2: call 0 leads from a to b, call 4 from a to c. */
    private static final String FORK = "(node a (go 0 b) (go 4 c)) (node b (go 8 b)) (node c (go 12 c))";

    private static void waysOut() {
        byte[] row = Build.program(Build.function(0, 0, 0, 0, "call 1, return, return", Build.handler(0, 1, 2)),
                Build.function(0, 1, 0, 0, "load 0, ifnot 4, host 0, return, host 4, return"));
        GuardForge x = check.with(FORK, row);
        // Both RETURNS come out; what is thrown may be from anywhere.
        may(x, 0, 1, 6, 7);
        may(x, 1, 1, 1, 1, 2, 1, 4);
        // What comes out of a function does so only behind a CALL that is come to.
        row = Build.program(Build.function(0, 0, 0, 0, "call 1, host 8, pop, call 1, return, return", Build.handler(3, 4, 5)),
                Build.function(0, 1, 0, 0, "push 1, pop, return"));
        x = check.with(FORK, row);
        may(x, 0, 1, 1, 0, 0, 0, 0);
        may(x, 1, 1, 1, 1);
    }

    private static void recursion() {
        byte[] row = Build.program(Build.function(0, 0, 0, 0, "call 1, return"),
                Build.function(0, 1, 0, 0, "load 0, ifnot 4, call 1, return, host 0, return"));
        GuardForge x = check.with(ROUND, row);
        may(x, 0, 1, 2);
        may(x, 1, 1, 1, 1, 2, 1, 2);
        // Nothing ever comes out of a function that only calls itself.
        row = Build.program(Build.function(0, 0, 0, 0, "call 1, return"), Build.function(0, 0, 0, 0, "call 1, return"));
        x = check.with(ROUND, row);
        may(x, 0, 1, 0);
        may(x, 1, 1, 0);
        row = Build.program(Build.function(0, 0, 0, 0, "host 0, pop, call 0, return"));
        x = check.with(ROUND, row);
        // FUNCTION 0 may begin in whatever state it calls itself.
        may(x, 0, 7, 7, 7, 0);
    }

    private static void handlers() {
        // Only what can throw counts, whatever else is in the range.
        GuardForge x = check.with(ROUND, Build.plain("host 0, pop, host 0, pop, push 1, push 2, div, pop, return, return",
                Build.handler(0, 9, 9)));
        may(x, 0, 1, 2, 2, 4, 4, 4, 4, 4, 4, 4);
        String[] throwing = {"push 1, push 2, div", "push 1, push 2, rem", "push 1, new", "load 1, push 1, get",
            "load 1, push 1, push 1, put", "push 1, throw"};
        for (String words : throwing) {
            int n = words.split(",").length;
            x = check.with(ROUND, Build.plain(words + ", return, host 0, return", Build.handler(0, n, n + 1)));
            check.same("target of " + words, x.mayOf(false, 0, n + 1), 1);
            check.same("behind the target of " + words, x.mayOf(false, 0, n + 2), 2);
            x = check.with(ROUND, Build.plain(words + ", return, host 0, return", Build.handler(0, n - 1, n + 1)));
            check.same("out of range: target of " + words, x.mayOf(false, 0, n + 1), 0);
        }
        String[] others = {"push 1, pop", "push 1, push 2, mul", "load 1, size", "host 4", "push 1, push 1, shl", "jump 1"};
        for (String words : others) {
            int n = words.split(",").length;
            x = check.with(ROUND, Build.plain(words + ", return, host 0, return", Build.handler(0, n, n + 1)));
            check.same("target of " + words, x.mayOf(false, 0, n + 1), 0);
            check.same("come to, of " + words, x.codeOf(false, 0, n + 1, 2), 1);
        }
        // One that is never come to does not count.
        x = check.with(ROUND, Build.plain("return, push 1, throw, return", Build.handler(0, 3, 3)));
        may(x, 0, 1, 0, 0, 0);
    }

    private static void handlersOfCalls() {
        byte[] row = Build.program(Build.function(0, 0, 0, 0, "host 0, pop, call 1, return, return", Build.handler(2, 3, 4)),
                Build.function(0, 0, 0, 0, "host 0, pop, host 0, pop, return"));
        GuardForge x = check.with(ROUND, row);
        // ALL of function 1: b, c and a; that it begins with is in it, too.
        may(x, 0, 1, 2, 2, 1, 7);
        // ALL of what is called by it, at any depth, also where nothing comes out.
        row = Build.program(Build.function(0, 0, 0, 0, "call 1, return, return", Build.handler(0, 1, 2)),
                Build.function(0, 0, 0, 0, "call 2, return"), Build.function(0, 0, 0, 0, "host 0, throw"));
        x = check.with(ROUND, row);
        may(x, 0, 1, 0, 3);
        may(x, 1, 1, 0);
        may(x, 2, 1, 2);
        // A CALL that is never come to hands on nothing.
        row = Build.program(Build.function(0, 0, 0, 0, "host 8, pop, call 1, return, return", Build.handler(2, 3, 4)),
                Build.function(0, 0, 0, 0, "host 4, return"));
        x = check.with(ROUND, row);
        may(x, 0, 1, 0, 0, 0, 0);
        may(x, 1, 0, 0);
    }

    private static void needs() {
        GuardForge x = check.with(ROUND, Build.plain("host 4, host 0, host 4, host 8, host 4, host 12, return, host 0, host 12"));
        int[] due = {0, 1, 0, 1, 0, 1, 0, 0, 0};
        for (int i = 0; i < due.length; i++) {
            check.same("needs " + i, x.codeOf(false, 0, i, 5), due[i]);
        }
        // Rules need guards, come to or not, for their call alone, or for any.
        x = check.with("(counter c 1 (up 4 (count c more 5))) (node a (go any a))", Build.plain("host 4, host 0, return, host 4"));
        check.same("a rule of 4", x.codeOf(false, 0, 0, 5), 1);
        check.same("none of 0", x.codeOf(false, 0, 1, 5), 0);
        check.same("return needs none", x.codeOf(false, 0, 2, 5), 0);
        check.same("never come to, a rule of 4", x.codeOf(false, 0, 3, 5), 1);
        x = check.with("(counter c 1 (zero any)) (node a (go any a))", Build.plain("host 4, host 0, return"));
        check.same("any", x.codeOf(false, 0, 0, 5), 1);
        check.same("any", x.codeOf(false, 0, 1, 5), 1);
        // One letter that goes nowhere or elsewhere is enough.
        x = check.with("(node a (go 1 (arg 0 less 9) a) (go 2 a) (go 3 a) (go 3 (arg 0 same 5) b)) (node b (go 5 b))",
                Build.plain("push 1, host 1, push 1, host 2, push 1, push 1, host 3, return"));
        check.same("nowhere by one", x.codeOf(false, 0, 1, 5), 1);
        check.same("it stays", x.codeOf(false, 0, 3, 5), 0);
        check.same("elsewhere by one", x.codeOf(false, 0, 6, 5), 1);
        check.same("what is a push", x.codeOf(false, 0, 0, 5), 0);
    }

    private static void guarded() {
        GuardForge x = check.with(ROUND, Build.plain("guard 0, host 0, pop, host 0, pop, guard 4, host 0, return"));
        int[] due = {0, 1, 0, 0, 0, 0, 0, 0};
        for (int i = 0; i < due.length; i++) {
            check.same("guarded " + i, x.codeOf(false, 0, i, 4), due[i]);
        }
        check.same("no HOST is first", check.with(ROUND, Build.plain("host 0, return")).codeOf(false, 0, 0, 4), 0);
        // A jump to the HOST, also one that is never come to.
        for (String jump : new String[] {"jump 1", "if 1", "ifnot 1"}) {
            x = check.with(ROUND, Build.plain("guard 0, host 0, return, " + jump));
            check.same("guarded with " + jump, x.codeOf(false, 0, 1, 4), 0);
            x = check.with(ROUND, Build.plain("guard 0, host 0, return, " + jump.replace("1", "0")));
            check.same("guarded with a jump to the guard", x.codeOf(false, 0, 1, 4), 1);
        }
        x = check.with(ROUND, Build.plain("guard 0, host 0, return, return", Build.handler(3, 4, 1)));
        check.same("guarded with a handler", x.codeOf(false, 0, 1, 4), 0);
        x = check.with(ROUND, Build.plain("guard 0, host 0, return, return", Build.handler(1, 4, 3)));
        check.same("a handler's range does not matter", x.codeOf(false, 0, 1, 4), 1);
        // A jump of another function is none to it.
        x = check.with(ROUND, Build.program(Build.function(0, 0, 0, 0, "guard 0, host 0, return"),
                Build.function(0, 0, 0, 0, "jump 1, return")));
        check.same("a jump of another function", x.codeOf(false, 0, 1, 4), 1);
        // The end of one function and the beginning of the next are not neighbours.
        x = check.with(ROUND, Build.program(Build.function(0, 0, 0, 0, "return, guard 0"),
                Build.function(0, 0, 0, 0, "host 0, return")));
        check.same("across functions", x.codeOf(false, 1, 0, 4), 0);
    }

    private static void certified() {
        check.same("no program", new GuardForge().certifyIt(false), -1);
        GuardForge x = check.with(ROUND, Build.plain("host 4, return"));
        check.same("needs nothing", x.certifyIt(false), 0);
        check.same("nothing is forged", x.certifyIt(true), -1);
        check.same("needs one", check.with(ROUND, Build.plain("host 4, host 0, return")).certifyIt(false), 1 + 1);
        check.same("has it", check.with(ROUND, Build.plain("host 4, guard 0, host 0, return")).certifyIt(false), 0);
        check.same("more than needed", check.with(ROUND, Build.plain("guard 4, host 4, return")).certifyIt(false), 0);
        check.same("a guard without a host", check.with(ROUND, Build.plain("host 4, guard 0, return")).certifyIt(false), 2);
        check.same("a guard at the end", check.with(ROUND, Build.plain("return, guard 0")).certifyIt(false), 2);
        check.same("a guard of another call", check.with(ROUND, Build.plain("guard 4, host 0, return")).certifyIt(false), 1);
        check.same("two guards", check.with(ROUND, Build.plain("guard 0, guard 0, host 0, return")).certifyIt(false), 1);
        check.same("a jump to the host", check.with(ROUND, Build.plain("guard 4, host 4, return, jump 1")).certifyIt(false), 1);
        // Nothing of programs that were there before is behind the last instruction.
        for (int n = 0; n < 3; n++) {
            check.same("load", Check.program(x, Build.plain("return, guard 0, host 0")), 0);
            check.same("certified", x.certifyIt(false), 0);
        }
        check.same("load", Check.program(x, Build.plain("return, guard 0")), 0);
        check.same("a guard at the end of a shorter one", x.certifyIt(false), 2);
        GuardForge y = check.with(ROUND, Build.program(Build.function(0, 0, 0, 0, "guard 0, host 0, call 1, return"),
                Build.function(0, 0, 0, 0, "host 4, host 8, return")));
        check.same("in function 1", y.certifyIt(false), 1 + 512 + 1);
        // Never come to: needs none by its MAY, but by a rule.
        check.same("never come to", check.with(ROUND, Build.plain("return, host 0")).certifyIt(false), 0);
        check.same("never come to, with a rule", check.with("(counter c 1 (up 0))" + ROUND, Build.plain("return, host 0"))
                .certifyIt(false), 2);
    }

    private static void byPolicy() {
        GuardForge x = check.with(ROUND, Build.plain("host 0, pop, host 0, return"));
        may(x, 0, 1, 2, 2, 4);
        check.same("not certified", x.certifyIt(false), 1);
        check.same("another policy", Check.policy(x, "(node a (go any a))"), 0);
        may(x, 0, 1, 1, 1, 1);
        check.same("certified by that", x.certifyIt(false), 0);
        check.same("a wrong policy", Check.policy(x, "(node a (go any b))"), 5);
        check.same("certified still", x.certifyIt(false), 0);
    }
}
