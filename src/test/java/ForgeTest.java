/** Promises 8, 9, 10 and 25: what is forged. */
public final class ForgeTest {
    private static final Check check = new Check("ForgeTest");
    private static final String RULED = "(counter c 9 (up 0) (up 1) (up 3)) (node a (go any a))";

    public static void main(String[] args) {
        none();
        plainCode();
        whereItHasTo();
        moved();
        handlersMoved();
        noRoom();
        bytesOfIt();
        again();
        check.end();
    }

    /** What was forged is just the program that is made of these bytes. */
    private static void forged(GuardForge x, byte[] due) {
        check.same("saveProgram(true)", x.saveProgram(true), due.length);
        for (int k = 0; k < due.length; k++) {
            check.same("byte " + k + " of what was forged", x.byteOf(k, false), due[k] & 255);
        }
        check.same("certified", x.certifyIt(true), 0);
    }

    private static void none() {
        GuardForge x = new GuardForge();
        check.same("no program", x.forgeIt(), -1);
        check.same("nothing forged", x.lookAt(7), -1);
        x = check.with(RULED, Build.plain("guard 0, host 0, return"));
        check.same("it has a guard", x.forgeIt(), -1);
        x = check.with(RULED, Build.plain("return, guard 0"));
        check.same("it has a guard that is never come to", x.forgeIt(), -1);
        check.same("nothing forged", x.lookAt(7), -1);
        check.same("nothing to certify", x.certifyIt(true), -1);
        check.same("nothing to save", x.saveProgram(true), -1);
    }

    private static void plainCode() {
        GuardForge x = check.with(RULED, Build.plain("host 0, push 1, host 1, push 3, host 2, return"));
        check.same("guards", x.forgeIt(), 2);
        check.same("instructions of it", x.lookAt(7), 8);
        check.same("the program stays", x.lookAt(6), 6);
        forged(x, Build.plain("guard 0, host 0, push 1, guard 1, host 1, push 3, host 2, return"));
        check.same("the program is not certified", x.certifyIt(false), 1);
        check.same("depth ahead of the second guard", x.codeOf(true, 0, 3, 2), 2);
        check.same("guarded", x.codeOf(true, 0, 4, 4), 1);
        check.same("needs", x.codeOf(true, 0, 4, 5), 1);
        check.same("functionOf", x.functionOf(true, 0, 3), 8);
        x = check.with("(node a (go any a))", Build.plain("host 0, return"));
        check.same("no guards", x.forgeIt(), 0);
        forged(x, Build.plain("host 0, return"));
        x = check.with(RULED, Build.program(Build.function(0, 1, 1, 1, "push 3, load 0, call 1, size, return"),
                Build.function(2, 5, 10, 2, "load 0, host 1, pop, load 1, return")));
        check.same("a function with parameters", x.forgeIt(), 1);
        forged(x, Build.program(Build.function(0, 1, 1, 1, "push 3, load 0, call 1, size, return"),
                Build.function(2, 5, 10, 2, "load 0, guard 1, host 1, pop, load 1, return")));
        check.same("it runs", x.runIt(true, 100), 0);
        check.same("its call", x.traceAt(0, 1), 3);
        x = check.with(RULED, Build.program(Build.function(0, 0, 0, 0, "call 1, return, host 0"),
                Build.function(0, 1, 1, 2, "host 0, pop, load 0, return")));
        check.same("in all functions, come to or not", x.forgeIt(), 2);
        forged(x, Build.program(Build.function(0, 0, 0, 0, "call 1, return, guard 0, host 0"),
                Build.function(0, 1, 1, 2, "guard 0, host 0, pop, load 0, return")));
    }

    private static void whereItHasTo() {
        // Behind call 0 there is a state in which 4 can be, and 0 no more.
        GuardForge x = check.with("(node a (go 0 b)) (node b (go 4 b))", Build.plain("host 0, host 4, host 4, host 0, return, host 0"));
        check.same("guards", x.forgeIt(), 2);
        forged(x, Build.plain("guard 0, host 0, host 4, host 4, guard 0, host 0, return, host 0"));
        check.same("may of the forged", x.mayOf(true, 0, 0), 1);
        check.same("may behind the guard", x.mayOf(true, 0, 1), 2);
        check.same("may behind the host", x.mayOf(true, 0, 2), 2);
        check.same("may behind the last", x.mayOf(true, 0, 6), 0);
    }

    private static void moved() {
        GuardForge x = check.with(RULED, Build.plain("host 0, if 0, host 0, ifnot 5, jump 2, host 0, pop, jump 7"));
        check.same("guards", x.forgeIt(), 3);
        // Jumps to a HOST go to its guard.
        forged(x, Build.plain("guard 0, host 0, if 0, guard 0, host 0, ifnot 7, jump 3, guard 0, host 0, pop, jump 10"));
    }

    private static void handlersMoved() {
        byte[] row = Build.plain("push 1, host 1, host 1, pop, push 1, throw, host 1, return",
                Build.handler(1, 2, 6), Build.handler(2, 6, 7, -1), Build.handler(0, 8, 6), Build.handler(3, 6, 3, 2));
        GuardForge x = check.with(RULED, row);
        check.same("guards", x.forgeIt(), 3);
        forged(x, Build.plain("push 1, guard 1, host 1, guard 1, host 1, pop, push 1, throw, guard 1, host 1, return",
                Build.handler(1, 3, 8), Build.handler(3, 8, 10, -1), Build.handler(0, 11, 8), Build.handler(5, 8, 5, 2)));
        check.same("handlers", x.functionOf(true, 0, 4), 4);
    }

    private static void noRoom() {
        GuardForge x = check.with(RULED, Build.plain("push 1, " + Build.times(199, "host 1", "return")));
        check.same("201 and 199 guards", x.forgeIt(), 199);
        check.same("400 instructions", x.lookAt(7), 400);
        check.same("load", Check.program(x, Build.plain("push 1, " + Build.times(199, "host 1", "pop, return"))), 0);
        check.same("401 instructions", x.forgeIt(), -2);
        check.same("nothing forged", x.lookAt(7), -1);
        check.same("load", Check.program(x, Build.plain(Build.times(199, "push 1, pop", "push 1, return"))), 0);
        check.same("400 instructions that need none", x.forgeIt(), 0);
        check.same("400 instructions", x.lookAt(7), 400);
        check.same("load", Check.program(x, Build.plain(Build.times(198, "push 1, pop", "host 0, pop, push 1, return"))), 0);
        check.same("400 instructions that need one", x.forgeIt(), -2);
        check.same("nothing forged", x.lookAt(7), -1);
        // Twelve functions that grow to more than 8192 bytes together.
        byte[][] functions = new byte[12][];
        for (int f = 0; f < 12; f++) {
            functions[f] = Build.function(0, 0, 0, 0, "push 1, " + Build.times(171, "host 1", "return"));
        }
        check.same("load", Check.program(x, Build.program(functions)), 0);
        check.same("4 + 12 * (8 + 6 + 171 * 4) is 8380", x.forgeIt(), -2);
        check.same("nothing forged still", x.lookAt(7), -1);
        for (int f = 0; f < 12; f++) {
            int hosts = f < 6 ? 167 : 166;
            functions[f] = Build.function(0, 0, 0, 0, "push 1, " + Build.times(hosts, "host 1", f < 2 ? "return, return" : "return"));
        }
        // 4 + 12 * 14 + 4 * (6 * 167 + 6 * 166) + 2 is 8166; 26 more are five pushes and a pop.
        check.same("load", Check.program(x, Build.program(functions)), 0);
        check.same("it fits", x.forgeIt(), 6 * 167 + 6 * 166);
        check.same("8166 bytes", x.saveProgram(true), 8166);
        functions[11] = Build.function(0, 0, 0, 0, "push 1, " + Build.times(166, "host 1",
                "push 1, push 1, push 1, push 1, push 1, pop, return"));
        check.same("load", Check.program(x, Build.program(functions)), 0);
        check.same("it just fits", x.forgeIt(), 6 * 167 + 6 * 166);
        check.same("8192 bytes", x.saveProgram(true), 8192);
        functions[11] = Build.function(0, 0, 0, 0, "push 1, " + Build.times(166, "host 1",
                "push 1, push 1, push 1, push 1, push 1, pop, pop, return"));
        check.same("load", Check.program(x, Build.program(functions)), 0);
        check.same("one byte too many", x.forgeIt(), -2);
        // 26 bytes are also a handler for any code, one for a code, push, pop, dup and pop.
        functions[11] = Build.function(0, 0, 0, 0, "push 1, " + Build.times(166, "host 1", "push 1, pop, dup, pop, return"),
                Build.handler(0, 1, 1), Build.handler(0, 1, 1, 9));
        check.same("load", Check.program(x, Build.program(functions)), 0);
        check.same("with handlers it just fits", x.forgeIt(), 6 * 167 + 6 * 166);
        check.same("8192 bytes with handlers", x.saveProgram(true), 8192);
        functions[11] = Build.function(0, 0, 0, 0, "push 1, " + Build.times(166, "host 1", "push 1, pop, dup, pop, dup, return"),
                Build.handler(0, 1, 1), Build.handler(0, 1, 1, 9));
        check.same("load", Check.program(x, Build.program(functions)), 0);
        check.same("with handlers one byte too many", x.forgeIt(), -2);
        check.same("nothing forged", x.lookAt(7), -1);
    }

    private static void bytesOfIt() {
        byte[] row = Build.plain("host 0, if 0, push 3, new, store 1, return, pop, return", Build.handler(3, 4, 6));
        GuardForge x = check.with(RULED, row);
        check.same("forge", x.forgeIt(), 1);
        int n = x.saveProgram(true);
        check.same("two bytes more", n, row.length + 2);
        x.turnBytes();
        check.same("it can be loaded", x.loadProgram(), 0);
        check.same("it is certified", x.certifyIt(false), 0);
        check.same("it has a guard", x.forgeIt(), -1);
        check.same("nothing is forged", x.lookAt(7), -1);
        check.same("the same bytes", x.saveProgram(false), n);
    }

    private static void again() {
        GuardForge x = check.with(RULED, Build.plain("host 0, host 4, return"));
        check.same("forge", x.forgeIt(), 1);
        check.same("forge again", x.forgeIt(), 1);
        check.same("instructions", x.lookAt(7), 4);
        check.same("run", x.runIt(true, 10), 0);
        check.same("forge a third time", x.forgeIt(), 1);
        check.same("the run stays", x.endOf(2), 3);
        check.same("may behind the guard", x.mayOf(true, 0, 1), 1);
        // What was known of programs that are gone is not taken for what is forged.
        check.same("fork", Check.policy(x, "(node a (go 0 b) (go 4 c)) (node b (go 8 b)) (node c (go 12 c))"), 0);
        for (int n = 0; n < 6; n++) {
            int call = n % 2 * 4;
            check.same("load", Check.program(x, Build.plain("host " + call + ", return")), 0);
            check.same("may", x.mayOf(false, 0, 1), n % 2 == 0 ? 2 : 4);
            check.same("forge", x.forgeIt(), 1);
            check.same("may of what is forged", x.mayOf(true, 0, 2), n % 2 == 0 ? 2 : 4);
        }
        check.same("load", Check.program(x, Build.plain("host 0, host 4, return")), 0);
        check.same("another policy", Check.policy(x, "(counter c 1 (up any)) (node a (go any a))"), 0);
        check.same("nothing is forged", x.lookAt(7), -1);
        check.same("forge by that", x.forgeIt(), 2);
        check.same("instructions", x.lookAt(7), 5);
    }
}
