/** Promises 7 and 21: how programs are verified, faults 5 to 8, and what is on the stack. */
public final class VerifyTest {
    private static final Check check = new Check("VerifyTest");

    public static void main(String[] args) {
        whatIsTaken();
        emptyStack();
        callsAndResults();
        tooMuchOnTheStack();
        otherTypes();
        noneBehind();
        order();
        whatIsOnTheStack();
        neverComeTo();
        check.end();
    }

    private static void fault(byte[] row, String name, int fault, int place) {
        check.programFault(new GuardForge(), name, row, fault, place);
    }

    private static void fault(String words, int fault, int place) {
        fault(Build.main(words), words, fault, place);
    }

    private static void right(String words) {
        fault(words, 0, -1);
    }

    private static void whatIsTaken() {
        // Locals 0 .. 3 are ints, 4 and 5 rows.
        String[] two = {"add", "sub", "mul", "div", "rem", "and", "or", "xor", "shl", "shr", "less", "same"};
        for (String word : two) {
            right("push 1, push 2, " + word + ", return");
            fault("push 1, load 4, " + word + ", return", 5, 2);
            fault("load 4, push 1, " + word + ", return", 5, 2);
            fault("push 1, " + word + ", return", 5, 1);
        }
        right("load 4, store 5, load 0, store 3, push 1, return");
        fault("load 4, store 0, push 1, return", 5, 1);
        fault("load 0, store 4, push 1, return", 5, 1);
        fault("load 4, if 0, push 1, return", 5, 1);
        fault("load 4, ifnot 0, push 1, return", 5, 1);
        right("push 3, new, store 4, push 1, return");
        fault("load 4, new, pop, push 1, return", 5, 1);
        right("load 4, push 0, get, return");
        fault("push 0, load 4, get, return", 5, 2);
        fault("push 0, push 0, get, return", 5, 2);
        right("load 4, push 0, push 9, put, push 1, return");
        fault("push 0, push 9, load 4, put, push 1, return", 5, 3);
        fault("load 4, load 4, push 9, put, push 1, return", 5, 3);
        right("load 4, size, return");
        fault("push 1, size, return", 5, 1);
        fault("load 4, return", 5, 1);
        fault("load 4, throw", 5, 1);
        right("push 1, throw");
        right("load 4, pop, push 1, return");
        right("load 4, push 1, swap, size, add, return");
        right("load 4, dup, size, swap, pop, return");
        right("load 4, load 5, push 1, return");
    }

    private static void emptyStack() {
        for (String word : new String[] {"pop", "dup", "swap", "store 0", "store 4", "if 0", "ifnot 0", "new", "get",
                "put", "size", "return", "throw", "host 1", "guard 1"}) {
            fault(word + ", push 1, return", 5, 0);
        }
        fault("push 1, swap, return", 5, 1);
        fault("load 4, push 1, put, push 1, return", 5, 2);
        for (int c = 0; c < 16; c++) {
            String pushes = Build.times(c % 4, "push 1", "");
            right(pushes + "guard " + c + ", host " + c + ", return");
            if (c % 4 > 0) {
                String fewer = Build.times(c % 4 - 1, "push 1", "");
                fault(fewer + "host " + c + ", return", 5, c % 4 - 1);
                fault(fewer + "guard " + c + ", host " + c + ", return", 5, c % 4 - 1);
                fault("load 4, " + fewer + "host " + c + ", return", 5, c % 4);
                fault("load 4, " + fewer + "guard " + c + ", return", 5, c % 4);
            }
        }
        right("load 4, push 1, guard 1, host 1, return");
        // A guard leaves what it looks at.
        right("push 1, push 2, guard 2, sub, return");
    }

    private static void callsAndResults() {
        byte[] takes = Build.function(3, 3, 2, 2, "load 1, return");
        String name = "call of a function with an int, a row and an int";
        fault(Build.program(Build.function(0, 1, 1, 1, "push 1, load 0, push 2, call 1, size, return"), takes), name, 0, -1);
        fault(Build.program(Build.function(0, 1, 1, 1, "push 1, load 0, push 2, call 1, return"), takes),
                name + " whose row is returned", 5, 4);
        fault(Build.program(Build.function(0, 1, 1, 1, "load 0, push 1, push 2, call 1, size, return"), takes),
                name + " in another order", 5, 3);
        fault(Build.program(Build.function(0, 1, 1, 1, "load 0, push 2, call 1, size, return"), takes),
                name + " without the first", 5, 2);
        fault(Build.program(Build.function(0, 0, 0, 1, "call 1, return"), Build.function(0, 0, 0, 0, "return")),
                "no result to return", 5, 1);
        fault(Build.program(Build.function(0, 0, 0, 0, "push 1, return")), "what is below is gone", 0, -1);
        fault(Build.program(Build.function(0, 0, 0, 0, "return"), Build.function(0, 1, 1, 2, "push 1, return")),
                "an int for a row", 5, 512 + 1);
        fault(Build.program(Build.function(0, 0, 0, 0, "return"), Build.function(0, 1, 1, 1, "load 0, return")),
                "a row for an int", 5, 512 + 1);
        fault(Build.program(Build.function(0, 0, 0, 0, "return"), Build.function(0, 0, 0, 0, "return"),
                Build.function(0, 0, 0, 0, "pop, return")), "function 2", 5, 1024);
        fault(Build.program(Build.function(0, 0, 0, 0, "return"), Build.function(0, 0, 0, 0, "swap, return"),
                Build.function(0, 0, 0, 0, "pop, return")), "function 1 and 2", 5, 512);
    }

    private static void tooMuchOnTheStack() {
        right(Build.times(16, "push 1", "return"));
        fault(Build.times(17, "push 1", "return"), 6, 16);
        fault(Build.times(16, "push 1", "dup, return"), 6, 16);
        fault(Build.times(16, "push 1", "load 0, return"), 6, 16);
        fault(Build.times(16, "push 1", "host 0, return"), 6, 16);
        right(Build.times(16, "push 1", "host 1, return"));
        right(Build.times(16, "push 1", "guard 3, host 3, return"));
        right(Build.times(15, "push 1", "load 4, size, return"));
        fault(Build.program(Build.function(0, 0, 0, 1, Build.times(16, "push 1", "call 1, return")),
                Build.function(0, 0, 0, 1, "push 1, return")), "call on a full stack", 6, 16);
        fault(Build.program(Build.function(0, 0, 0, 1, Build.times(16, "push 1", "call 1, return")),
                Build.function(1, 1, 0, 1, "push 1, return")), "call that takes and puts", 0, -1);
        // Types are told ahead of too many.
        fault(Build.program(Build.function(0, 1, 1, 1, Build.times(15, "push 1", "load 0, call 1, return")),
                Build.function(1, 1, 0, 1, "push 1, return")), "a wrong type on a full stack", 5, 16);
    }

    private static void otherTypes() {
        right("push 1, push 0, pop, return");
        fault("push 1, push 1, if 0, return", 7, 0);
        fault("push 1, if 3, jump 4, push 1, push 2, return", 7, 4);
        fault("load 0, ifnot 4, load 4, jump 5, push 1, return", 7, 5);
        right("load 0, ifnot 4, load 0, jump 5, push 1, return");
        // A handler's target is come to with one int.
        fault(Build.main("push 1, return", Build.handler(0, 2, 0)), "a handler to the first one", 7, 0);
        fault(Build.main("push 1, return", Build.handler(0, 2, 1)), "a handler to one with an int", 0, -1);
        fault(Build.main("load 4, size, return", Build.handler(0, 1, 1)), "a handler to one with a row", 7, 1);
        fault(Build.main("load 4, size, return", Build.handler(0, 1, 2)), "a handler to one with an int", 0, -1);
        fault(Build.main("push 1, push 2, pop, return", Build.handler(3, 4, 2)), "a handler at the end", 7, 2);
        fault(Build.program(Build.function(0, 0, 0, 0, "return"),
                Build.function(0, 0, 0, 1, "push 1, jump 0")), "in function 1", 7, 512);
    }

    private static void noneBehind() {
        for (String word : new String[] {"push 1", "load 0", "host 0", "guard 0", "new", "if 0"}) {
            boolean takes = word.equals("new") || word.equals("if 0");
            fault((takes ? "push 1, " : "") + word, 8, takes ? 1 : 0);
        }
        right("jump 0");
        right("push 1, throw");
        fault("push 1, ifnot 1", 7, 1);
        fault(Build.program(Build.function(0, 0, 0, 0, "return"), Build.function(0, 0, 0, 0, "push 1, pop")),
                "function 1", 8, 513);
        // The target is come to ahead of the one behind.
        fault("push 1, dup, if 0", 7, 0);
        // Handlers are ahead of both.
        fault(Build.main("push 1, if 0", Build.handler(1, 2, 0)), "a handler ahead of the end", 7, 0);
    }

    /** The one with the least number is looked at, so that is which fault is told. */
    private static void order() {
        // 0 leads to 5 and 1, 1 leads to 3: 3 is looked at ahead of 5.
        fault("load 0, if 6, jump 4, return, pop, return, pop, return", 5, 4);
        fault("load 0, if 4, push 1, return, pop, return", 5, 4);
        // 6 is come to first, then 3, which is looked at first.
        fault("load 0, if 7, load 0, if 5, return, pop, return, pop, return", 5, 4);
        // Coming to lower ones: 5 jumps back to 2.
        fault("load 0, if 5, pop, push 1, return, jump 2", 5, 2);
        fault("jump 5, pop, return, swap, return, load 0, if 3, jump 1", 5, 3);
        fault("jump 3, pop, return, load 0, if 1, swap, return", 5, 1);
        // Handlers in their order.
        fault(Build.main("jump 3, push 1, return, push 1, return", Build.handler(3, 4, 0), Build.handler(3, 4, 3)),
                "two handlers that are wrong", 7, 0);
        fault(Build.main("jump 3, push 1, return, push 1, return", Build.handler(3, 4, 3), Build.handler(3, 4, 0)),
                "the same, the other way", 7, 3);
        // What is told first is told, whatever else is wrong with those that wait still.
        fault("load 0, if 5, push 1, jump 0, return, pop, return", 7, 0);
        fault(Build.main("load 0, if 4, push 1, return, pop, return", Build.handler(2, 3, 0)), "a handler, then a pop", 7, 0);
        fault("load 0, if 4, push 1, add, pop, return", 5, 3);
        // Its own fault is ahead of its handlers.
        fault(Build.main("pop, return", Build.handler(0, 1, 0)), "an instruction and its handler", 5, 0);
    }

    private static void whatIsOnTheStack() {
        GuardForge x = new GuardForge();
        byte[] row = Build.program(Build.function(0, 6, 48, 1,
                "push 1, load 4, load 5, swap, push 2, new, push 0, push 3, put, size, swap, size, add, add, return, pop, "
                + "push 5, return, load 4, return", Build.handler(8, 9, 15)));
        check.same("load", Check.program(x, row), 0);
        int[] depth = {0, 1, 2, 3, 3, 4, 4, 5, 6, 3, 3, 3, 3, 2, 1, 1, 0, 1, -1, -1};
        int[] types = {0, 0, 2, 6, 6, 6, 14, 14, 14, 6, 2, 4, 0, 0, 0, 0, 0, 0, 0, 0};
        for (int i = 0; i < depth.length; i++) {
            check.same("depth ahead of " + i, x.codeOf(false, 0, i, 2), depth[i]);
            check.same("rows ahead of " + i, x.codeOf(false, 0, i, 3), types[i]);
        }
    }

    private static void neverComeTo() {
        // What is never come to may be what it likes, but has to be read.
        right("push 1, return, add, swap, pop");
        right("jump 2, pop, push 1, return");
        fault(Build.main("push 1, return, pop, pop", Build.handler(2, 4, 0)), "a handler of what is never come to", 0, -1);
        GuardForge x = new GuardForge();
        for (int n = 0; n < 3; n++) {
            check.same("load", Check.program(x, Build.main("load 4, load 4, size, return")), 0);
            check.same("two rows", x.codeOf(false, 0, 2, 3), 3);
        }
        check.same("load", Check.program(x, Build.main("push 1, return, host 3, return")), 0);
        check.same("depth", x.codeOf(false, 0, 2, 2), -1);
        check.same("rows", x.codeOf(false, 0, 2, 3), 0);
        check.same("may", x.mayOf(false, 0, 2), 0);
    }
}
