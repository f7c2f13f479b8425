/**
 * Under "PROGRAMS", how a FUNCTION is VERIFIED, FAULTS 5 to 8 and their places, and promise 21: each sentence that
 * names a boundary case, one method each, the sentence ahead of it.
 */
public final class VerifyEdgesTest {
    private static final Check check = new Check("VerifyEdgesTest");
    private static final byte[] RETURN = Build.function(0, 0, 0, 0, "return");

    /** Each instruction that takes something, and the types that it takes, the lowest first: i an INT, r a ROW. */
    private static final String[][] TAKES = {{"store 0", "i"}, {"store 1", "r"}, {"add", "ii"}, {"sub", "ii"}, {"mul", "ii"},
        {"div", "ii"}, {"rem", "ii"}, {"and", "ii"}, {"or", "ii"}, {"xor", "ii"}, {"shl", "ii"}, {"shr", "ii"},
        {"less", "ii"}, {"same", "ii"}, {"if %d", "i"}, {"ifnot %d", "i"}, {"new", "i"}, {"get", "ri"}, {"put", "rii"},
        {"size", "r"}, {"call 1", "iirr"}, {"call 2", "r"}, {"host 1", "i"}, {"host 2", "ii"}, {"host 3", "iii"},
        {"host 13", "i"}, {"host 14", "ii"}, {"host 15", "iii"}, {"guard 1", "i"}, {"guard 2", "ii"}, {"guard 3", "iii"},
        {"guard 15", "iii"}, {"throw", "i"}, {"return", "i"}};

    public static void main(String[] args) {
        typesThatItTakes();
        anyTypes();
        nothingAtFirst();
        resultsOfFunctions();
        whatIsBelow();
        sixteenOnTheStack();
        typesAheadOfTooMany();
        otherTypes();
        handlersComeToTargets();
        rangeOfHandlers();
        orderOfWhatIsComeTo();
        noneBehind();
        leastNumberFirst();
        places();
        whatIsThere();
        check.end();
    }

    /** FUNCTION 0 with LOCALS 0 an INT and 1 a ROW, and an INT as its result, among functions that can be called. */
    private static byte[] with(String words, byte[]... handlers) {
        return Build.program(Build.function(0, 2, 2, 1, words, handlers), Build.function(4, 4, 12, 1, "push 1, return"),
                Build.function(1, 1, 1, 0, "return"));
    }

    private static void fault(String words, int fault, int place) {
        check.programFault(new GuardForge(), words, with(words), fault, place);
    }

    private static void fault(String name, byte[] row, int fault, int place) {
        check.programFault(new GuardForge(), name, row, fault, place);
    }

    private static String puts(String types) {
        return types.replace("i", "load 0, ").replace("r", "load 1, ");
    }

    /** The instruction behind what puts such types, and then an end that is right whatever is there. */
    private static String behind(String types, String word) {
        return puts(types) + String.format(word, types.length() + 1) + ", push 1, return";
    }

    /** "5: the upper ones of the STACK are not of the types that it takes": each one wrong, and one too few */
    private static void typesThatItTakes() {
        for (String[] row : TAKES) {
            String word = row[0];
            String types = row[1];
            int n = types.length();
            fault(behind(types, word), 0, -1);
            fault(behind("i" + types, word), 0, -1);
            fault(behind("r" + types, word), 0, -1);
            for (int fewer = 0; fewer < n; fewer++) {
                fault(behind(types.substring(n - fewer), word), 5, fewer);
            }
            for (int k = 0; k < n; k++) {
                String other = types.substring(0, k) + (types.charAt(k) == 'i' ? "r" : "i") + types.substring(k + 1);
                fault(behind(other, word), 5, n);
                fault(behind("ir" + other, word), 5, n + 2);
            }
        }
    }

    /** "1 POP takes one. 2 DUP puts the top once more. 3 SWAP changes the upper two over.": of any types, but they have to be there */
    private static void anyTypes() {
        for (String type : new String[] {"i", "r"}) {
            fault(behind(type, "pop"), 0, -1);
            fault(behind(type, "dup"), 0, -1);
            for (String other : new String[] {"i", "r"}) {
                fault(behind(type + other, "swap"), 0, -1);
            }
            fault(behind(type, "swap"), 5, 1);
            fault(behind(type, "pop, pop"), 5, 2);
        }
        for (String word : new String[] {"pop", "dup", "swap"}) {
            fault(behind("", word), 5, 0);
        }
        // What they leave has the types that it had.
        fault(puts("ri") + "swap, size, return", 0, -1);
        fault(puts("ri") + "swap, return", 5, 3);
        fault(puts("r") + "dup, size, return", 0, -1);
        fault(puts("r") + "dup, return", 5, 2);
        fault(puts("i") + "dup, add, return", 0, -1);
        fault(puts("ir") + "pop, return", 0, -1);
        fault(puts("ri") + "pop, size, return", 0, -1);
    }

    /** "INSTRUCTION 0 waits, with nothing on the STACK" */
    private static void nothingAtFirst() {
        GuardForge x = new GuardForge();
        check.same("load", Check.program(x, with("push 1, return")), 0);
        for (int f = 0; f < 3; f++) {
            check.same("depth at first of " + f, x.codeOf(false, f, 0, 2), 0);
            check.same("rows at first of " + f, x.codeOf(false, f, 0, 3), 0);
        }
        // PARAMS are in LOCALS, not on the STACK.
        fault("a param is not on the stack", Build.program(RETURN, Build.function(1, 1, 0, 0, "pop, return")), 5, 512);
    }

    /** "27 RETURN: takes RESULT, if there is one" */
    private static void resultsOfFunctions() {
        String[] types = {"", "i", "r"};
        for (int result = 0; result <= 2; result++) {
            for (int given = 0; given <= 2; given++) {
                byte[] row = Build.program(RETURN, Build.function(0, 2, 2, result, puts(types[given]) + "return"));
                boolean right = result == 0 || result == given;
                fault("result " + result + " of " + types[given], row, right ? 0 : 5,
                        right ? -1 : 512 + types[given].length());
            }
        }
        for (int result = 0; result <= 2; result++) {
            String words = result == 0 ? "call 1, return" : result == 1 ? "call 1, push 1, add, return" : "call 1, size, return";
            byte[] callee = Build.function(0, 2, 2, result, result == 0 ? "return" : puts(types[result]) + "return");
            fault("call that puts " + types[result], Build.program(Build.function(0, 0, 0, 0, words), callee), 0, -1);
            for (int other = 0; other <= 2; other++) {
                byte[] another = Build.function(0, 2, 2, other, other == 0 ? "return" : puts(types[other]) + "return");
                boolean right = result == other || result == 0;
                fault("call that puts " + types[other] + " for " + types[result],
                        Build.program(Build.function(0, 0, 0, 0, words), another), right ? 0 : 5,
                        right ? -1 : result == 1 ? 2 : 1);
            }
        }
    }

    /** "what is below that is gone" */
    private static void whatIsBelow() {
        for (int n = 0; n < 16; n++) {
            fault(Build.times(n, n % 2 == 0 ? "load 0" : "load 1", "push 1, return"), 0, -1);
            fault(Build.times(n, n % 2 == 0 ? "load 0" : "load 1", "push 1, throw"), 0, -1);
        }
    }

    /** "6: there would be more than 16 on the STACK." */
    private static void sixteenOnTheStack() {
        String[] more = {"push 1", "dup", "load 0", "load 1", "host 0", "host 4", "host 8", "host 12", "call 1"};
        for (String word : more) {
            byte[] callee = Build.function(0, 0, 0, 1, "push 1, return");
            for (int n = 14; n <= 16; n++) {
                byte[] row = Build.program(Build.function(0, 2, 2, 0, Build.times(n, "push 1", word + ", return")), callee);
                fault(word + " on " + n, row, n < 16 ? 0 : 6, n < 16 ? -1 : 16);
            }
        }
        String[] notMore = {"pop", "swap", "store 0", "add", "same", "if 16", "ifnot 16", "jump 17", "new", "host 1", "host 2",
            "host 3", "guard 0", "guard 3", "throw", "return"};
        for (String word : notMore) {
            boolean jumps = word.startsWith("if");
            String words = Build.times(16, "push 1", word + ", return");
            byte[] row = Build.program(Build.function(0, 2, 2, 0, jumps ? words.replace("16,", "17,") : words));
            fault(word + " on 16", row, 0, -1);
        }
        byte[] callee = Build.function(1, 1, 0, 1, "load 0, return");
        fault("a call that takes one and puts one", Build.program(Build.function(0, 0, 0, 0,
                Build.times(16, "push 1", "call 1, return")), callee), 0, -1);
        fault("rows count, too", Build.program(Build.function(0, 1, 1, 0, Build.times(16, "load 0", "return"))), 0, -1);
        fault("rows count, too", Build.program(Build.function(0, 1, 1, 0, Build.times(17, "load 0", "return"))), 6, 16);
        // Each FUNCTION has a STACK of its own.
        fault("16 here and 16 there", Build.program(Build.function(0, 0, 0, 0, Build.times(16, "push 1", "call 1, return")),
                Build.function(0, 0, 0, 0, Build.times(16, "push 1", "return"))), 0, -1);
    }

    /** "5 .. 6": in this order, and both ahead of what is come to */
    private static void typesAheadOfTooMany() {
        byte[] callee = Build.function(1, 1, 1, 1, "push 1, return");
        fault("a wrong type on a full stack", Build.program(Build.function(0, 0, 0, 0, Build.times(16, "push 1",
                "call 1, return")), callee), 5, 16);
        fault("too many, and a handler that is wrong", Build.program(Build.function(0, 0, 0, 0,
                Build.times(17, "push 1", "return"), Build.handler(16, 17, 0))), 6, 16);
        fault("a wrong type, and a handler that is wrong", Build.program(Build.function(0, 0, 0, 0, "push 1, add, return",
                Build.handler(1, 2, 0))), 5, 1);
        fault("too many at the end", Build.program(Build.function(0, 0, 0, 0, Build.times(16, "push 1", "push 1"))), 6, 16);
        fault("a wrong type at the end", Build.program(Build.function(0, 0, 0, 0, "push 1, add")), 5, 1);
    }

    /** "What is come to for the first time waits; 7: it has been come to with other types." */
    private static void otherTypes() {
        // One more, one less, an INT for a ROW at the bottom and at the top; the same is right.
        fault("load 0, ifnot 4, push 1, jump 5, push 1, return", 0, -1);
        fault("load 0, ifnot 4, push 1, jump 5, jump 5, push 1, return", 7, 5);
        fault("load 0, ifnot 5, push 1, push 1, jump 6, push 1, return", 7, 6);
        fault("load 0, ifnot 5, load 1, push 1, jump 7, load 1, push 1, return", 0, -1);
        fault("load 0, ifnot 5, load 0, push 1, jump 7, load 1, push 1, return", 7, 7);
        fault("load 0, ifnot 5, push 1, load 0, jump 7, push 1, load 1, pop, return", 7, 7);
        // Back to what has been looked at.
        fault("push 1, pop, jump 0", 0, -1);
        fault("push 1, jump 0", 7, 0);
        fault("jump 0", 0, -1);
        fault("load 0, if 0, push 1, return", 0, -1);
        fault("push 1, load 0, if 0, return", 7, 0);
        // To itself.
        fault("push 1, load 0, if 2, return", 7, 2);
    }

    /** "for each HANDLER in whose range it is .. TARGET is come to with one INT" */
    private static void handlersComeToTargets() {
        fault("an INT", with("push 1, push 2, pop, return", Build.handler(0, 1, 3)), 0, -1);
        fault("nothing", with("push 1, push 2, pop, return", Build.handler(0, 1, 0)), 7, 0);
        fault("two INTS", with("push 1, push 2, pop, return", Build.handler(0, 1, 2)), 7, 2);
        fault("a ROW", with("load 1, pop, push 1, return", Build.handler(0, 1, 1)), 7, 1);
        fault("never come to else", with("push 1, return, pop, push 2, return", Build.handler(0, 1, 2)), 0, -1);
        fault("never come to else, and nothing on the stack behind it", with("push 1, return, pop, return",
                Build.handler(0, 1, 2)), 5, 3);
        GuardForge x = new GuardForge();
        check.same("load", Check.program(x, with("push 1, return, pop, push 2, return", Build.handler(0, 1, 2))), 0);
        check.same("one", x.codeOf(false, 0, 2, 2), 1);
        check.same("an INT", x.codeOf(false, 0, 2, 3), 0);
        // For any code or one code, and whatever the instruction is.
        fault("for one code", with("push 1, return, swap, return", Build.handler(1, 2, 2, 7)), 5, 2);
    }

    /** "in whose range it is (FROM to before TO)" */
    private static void rangeOfHandlers() {
        // The target is wrong, so the fault tells whether anything in the range was looked at.
        for (int from = 0; from < 6; from++) {
            for (int to = from + 1; to <= 6; to++) {
                // 0, 1 and 5 are come to, 2 to 4 never.
                byte[] row = with("push 1, jump 5, return, swap, return, return", Build.handler(from, to, 3));
                boolean comeTo = from <= 1 || to == 6;
                fault("from " + from + " to " + to, row, comeTo ? 5 : 0, comeTo ? 3 : -1);
            }
        }
        fault("not the one at TO", with("push 1, return, swap, return", Build.handler(2, 4, 2)), 0, -1);
    }

    /** "in their order .. then each that is next .. t, then the one behind" */
    private static void orderOfWhatIsComeTo() {
        fault("handlers in their order", with("jump 1, push 1, return", Build.handler(1, 2, 0), Build.handler(1, 2, 1)), 7, 0);
        fault("handlers in their other order", with("jump 1, push 1, return", Build.handler(1, 2, 1), Build.handler(1, 2, 0)), 7, 1);
        fault("a handler ahead of t", with("load 0, jump 0, return", Build.handler(1, 2, 1), Build.handler(1, 2, 0)), 7, 0);
        fault("a handler, then t", with("jump 1, load 0, jump 0, return", Build.handler(2, 3, 1)), 7, 1);
        fault("without it, t", with("jump 1, load 0, jump 0, return"), 7, 0);
        fault("t ahead of the one behind", with("load 0, if 5, push 1, push 1, if 2, return"), 7, 2);
        fault("t that is right, then the one behind", with("load 0, if 5, push 1, push 1, if 3, return"), 7, 5);
        fault("t ahead of none behind", with("push 1, dup, if 0"), 7, 0);
        fault("a handler ahead of none behind", with("push 1, push 1", Build.handler(1, 2, 0)), 7, 0);
        fault("a handler that is right, then none behind", with("push 1, push 1", Build.handler(1, 2, 1)), 8, 1);
    }

    /** "8: there is none behind.", "(of JUMP t alone, of RETURN and THROW none)" */
    private static void noneBehind() {
        for (int op = 0; op < 30; op++) {
            String name = Build.NAMES.get(op);
            String types = name.equals("pop") || name.equals("dup") ? "i" : name.equals("swap") ? "ii" : "";
            for (String[] row : TAKES) {
                types = types.isEmpty() && row[0].split(" ")[0].equals(name) ? row[1] : types;
            }
            String operand = name.equals("host") || name.equals("guard") || name.equals("call") ? " 1"
                    : Build.width(op) > 0 ? " 0" : "";
            String words = name.startsWith("if") ? "jump 2, return, load 0, " + name + " 2" : puts(types) + name + operand;
            boolean ends = name.equals("jump") || name.equals("return") || name.equals("throw");
            fault(words, ends ? 0 : 8, ends ? -1 : words.split(",").length - 1);
            fault(words + ", push 1, return", 0, -1);
        }
    }

    /** "as long as one waits, the one with the least number is looked at, which waits no more" */
    private static void leastNumberFirst() {
        // 2 and 5 wait, both are wrong: 2 is told, whichever was come to first.
        fault("load 0, if 5, swap, return, return, swap, return", 5, 2);
        fault("load 0, ifnot 5, jump 3, swap, return, swap, return", 5, 3);
        // One with a lower number that comes to wait later is looked at ahead of those that wait.
        fault("jump 4, swap, return, return, load 0, if 7, jump 1, swap, return", 5, 1);
        fault("jump 4, push 1, return, return, load 0, if 7, jump 1, swap, return", 5, 7);
        // The last one is looked at, too.
        fault("load 0, if 3, jump 4, jump 4, swap", 5, 4);
        // What is come to a second time does not wait again.
        fault("load 0, if 0, load 0, if 0, load 0, ifnot 2, push 1, return", 0, -1);
        // The other types are told when they are come to, not when it would be looked at.
        fault("load 0, if 6, load 0, jump 6, return, return, return", 7, 6);
        // Also where the one that is come to is wrong itself.
        fault("load 0, if 5, push 1, jump 5, return, swap, return", 7, 5);
    }

    /** "The place is 512 times the FUNCTION and the INSTRUCTION: that which is looked at, for 7 that which is come to." */
    private static void places() {
        for (int f : new int[] {0, 1, 11}) {
            for (int i : new int[] {0, 1, 255, 256, 398, 399}) {
                String fill = i == 0 ? "" : Build.times(i / 2, "push 1, pop", i % 2 == 1 ? "jump " + i + ", " : "");
                inFunction(f, fill + "pop", 5, 512 * f + i);
                inFunction(f, fill + "load 0", 8, 512 * f + i);
                if (i >= 17) {
                    String deep = Build.times((i - 16) / 2, "push 1, pop", i % 2 == 1 ? "jump " + (i - 16) + ", " : "");
                    inFunction(f, deep + Build.times(16, "push 1", "push 1"), 6, 512 * f + i);
                }
                if (i >= 3 && i % 2 == 1) {
                    // 1 comes to i with nothing, i - 1 with an INT.
                    String from = "load 0, if " + i + ", " + Build.times((i - 3) / 2, "push 1, pop", "push 1, return");
                    inFunction(f, from, 7, 512 * f + i);
                }
            }
        }
    }

    private static void inFunction(int f, String words, int fault, int place) {
        byte[][] functions = new byte[12][];
        for (int k = 0; k < 12; k++) {
            functions[k] = k == f ? Build.function(0, 1, 0, 0, words) : RETURN;
        }
        fault("place " + place, Build.program(functions), fault, place);
    }

    /** Promise 21: "2: how many are on the STACK ahead of it (NONE if it is never come to), 3: which of these are ROWS, as bits" */
    private static void whatIsThere() {
        GuardForge x = new GuardForge();
        StringBuilder words = new StringBuilder();
        for (int k = 0; k < 16; k++) {
            words.append(k % 3 == 0 ? "load 1, " : "load 0, ");
        }
        check.same("load", Check.program(x, Build.program(Build.function(0, 2, 2, 0, words + "return, return"))), 0);
        int rows = 0;
        for (int k = 0; k <= 16; k++) {
            check.same("depth of " + k, x.codeOf(false, 0, k, 2), k);
            check.same("rows of " + k, x.codeOf(false, 0, k, 3), rows);
            rows |= k % 3 == 0 ? 1 << k : 0;
        }
        check.same("never come to: depth", x.codeOf(false, 0, 17, 2), -1);
        check.same("never come to: rows", x.codeOf(false, 0, 17, 3), 0);
        check.same("none such: depth", x.codeOf(false, 0, 18, 2), 0);
        // Sixteen ROWS, the uppermost one, too.
        GuardForge y = new GuardForge();
        check.same("load", Check.program(y, Build.program(Build.function(0, 1, 1, 0, Build.times(16, "load 0", "return")))), 0);
        check.same("sixteen rows", y.codeOf(false, 0, 16, 3), 65535);
    }
}
