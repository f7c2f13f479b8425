/**
 * Under "GUARDS", GUARDED, MAY, NEEDS, CERTIFIED and to FORGE, and promises 9, 10, 21 and 22: each sentence that names
 * a boundary case, one method each, the sentence ahead of it.
 */
public final class GuardEdgesTest {
    private static final Check check = new Check("GuardEdgesTest");

    /** States a 0, b 1, c 2: call 0 leads from a to b, from b to c; call 4 stays everywhere; call 8 goes from c to c alone. */
    private static final String ROW = "(node a (go 0 b) (go 4 a))(node b (go 0 c) (go 4 b))(node c (go 4 c) (go 8 c))";
    private static final String RULED = "(counter c 9 (up 0) (up 1))(node a (go any a))";
    private static final byte[] RETURN = Build.function(0, 0, 0, 0, "return");

    public static void main(String[] args) {
        justAhead();
        ofTheSameCall();
        noJumpGoesToIt();
        noHandlerGoesToIt();
        noneForWhatIsNeverComeTo();
        functionZeroBeginsInZero();
        afterGuardsAndHosts();
        afterCalls();
        entryOfEachCall();
        exitOfEachReturn();
        allOfWhatIsCalled();
        whatThrows();
        rangeOfHandlers();
        sixHandlersOfTwelveFunctions();
        sixtyThreeStates();
        needsByRules();
        needsByStates();
        needsByEachLetter();
        certifiedHosts();
        certifiedGuards();
        firstThatKeepsItFromThat();
        noneToForge();
        forgeMovesAll();
        forgeMovesMost();
        fourHundredInstructions();
        bytesOfWhatIsForged();
        usedBefore();
        byThisPolicy();
        check.end();
    }

    private static byte[] plain(String words, byte[]... handlers) {
        return Build.program(Build.function(0, 1, 0, 0, words, handlers));
    }

    private static void guarded(String name, byte[] row, int function, int i, boolean due) {
        GuardForge x = check.with(ROW, row);
        check.same("guarded: " + name, x.codeOf(false, function, i, 4), due ? 1 : 0);
    }

    private static void may(GuardForge x, int function, long... due) {
        for (int i = 0; i < due.length; i++) {
            check.same("mayOf(" + function + ", " + i + ")", x.mayOf(false, function, i), due[i]);
        }
        check.same("mayOf(" + function + ") behind the last", x.mayOf(false, function, due.length), 0);
        check.same("mayOf(" + function + ") ahead of the first", x.mayOf(false, function, -1), 0);
    }

    private static void certified(String name, String policy, byte[] row, int due) {
        check.same("certified: " + name, check.with(policy, row).certifyIt(false), due);
    }

    /** "HOST c is GUARDED if GUARD c is just ahead of it" */
    private static void justAhead() {
        guarded("just ahead", plain("guard 0, host 0, return"), 0, 1, true);
        guarded("the guard itself", plain("guard 0, host 0, return"), 0, 0, false);
        guarded("one between", plain("guard 0, jump 2, host 0, return"), 0, 2, false);
        guarded("none between but a guard of another call", plain("guard 0, guard 4, host 0, return"), 0, 2, false);
        guarded("two guards", plain("guard 0, guard 0, host 0, return"), 0, 2, true);
        guarded("the first instruction", plain("host 0, return"), 0, 0, false);
        guarded("a guard behind it", plain("host 0, guard 0, return"), 0, 0, false);
        guarded("the second HOST", plain("guard 0, host 0, host 0, return"), 0, 2, false);
        guarded("never come to", plain("return, guard 0, host 0"), 0, 2, true);
        guarded("not a HOST", plain("guard 0, push 0, return"), 0, 1, false);
        byte[] full = plain(Build.times(398, "return", "guard 15, host 15"));
        guarded("the last of 400", full, 0, 399, true);
        byte[] across = Build.program(Build.function(0, 0, 0, 0, Build.times(399, "return", "guard 0")),
                Build.function(0, 0, 0, 0, "host 0, return"));
        guarded("across 400 instructions and the next function", across, 1, 0, false);
    }

    /** "GUARD c .. HOST c": of the same call */
    private static void ofTheSameCall() {
        GuardForge x = check.with(ROW);
        for (int c = 0; c < 16; c++) {
            int other = (c + 4) % 16;
            String args = Build.times(c % 4, "push 1", "");
            int at = c % 4 + 1;
            check.same("load", Check.program(x, plain(args + "guard " + c + ", host " + c + ", return")), 0);
            check.same("guard " + c + ", host " + c, x.codeOf(false, 0, at, 4), 1);
            check.same("load", Check.program(x, plain(args + "guard " + other + ", host " + c + ", return")), 0);
            check.same("guard " + other + ", host " + c, x.codeOf(false, 0, at, 4), 0);
        }
    }

    /** "and no jump .. goes to it (whether these are ever come to or not)" */
    private static void noJumpGoesToIt() {
        for (String jump : new String[] {"jump", "if", "ifnot"}) {
            for (int t = 0; t <= 3; t++) {
                boolean due = t != 1;
                String name = jump + " " + t;
                guarded(name + " that is never come to", plain("guard 0, host 0, return, " + name), 0, 1, due);
            }
        }
        guarded("a jump that is come to", plain("jump 2, return, guard 0, host 0, if 3, return"), 0, 3, false);
        guarded("a jump to the guard", plain("jump 2, return, guard 0, host 0, if 2, return"), 0, 3, true);
        guarded("a jump to the one behind", plain("jump 2, return, guard 0, host 0, if 5, return"), 0, 3, true);
        guarded("a jump of another function", Build.program(Build.function(0, 0, 0, 0, "guard 0, host 0, return"),
                Build.function(0, 0, 0, 0, "jump 1, return")), 0, 1, true);
        guarded("a jump in the same function", Build.program(RETURN, Build.function(0, 0, 0, 0, "guard 0, host 0, return, jump 1")),
                1, 1, false);
        guarded("the last one is jumped to by itself", plain(Build.times(397, "return", "guard 0, host 0, jump 398")), 0, 398, false);
    }

    /** "and no HANDLER goes to it": its TARGET */
    private static void noHandlerGoesToIt() {
        for (int target = 0; target <= 4; target++) {
            guarded("target " + target, plain("guard 0, host 0, return, return, return", Build.handler(4, 5, target)), 0, 1,
                    target != 1);
            guarded("target " + target + " for one code", plain("guard 0, host 0, return, return, return",
                    Build.handler(4, 5, target, 9)), 0, 1, target != 1);
        }
        // FROM and TO do not matter.
        for (int from = 0; from < 5; from++) {
            for (int to = from + 1; to <= 5; to++) {
                guarded("from " + from + " to " + to, plain("guard 0, host 0, return, return, return",
                        Build.handler(from, to, 3)), 0, 1, true);
            }
        }
        // Each of six, and of another function.
        for (int n = 0; n < 6; n++) {
            byte[][] handlers = new byte[6][];
            for (int h = 0; h < 6; h++) {
                handlers[h] = Build.handler(3, 4, h == n ? 1 : 3);
            }
            guarded("handler " + n, plain("guard 0, host 0, return, return", handlers), 0, 1, false);
        }
        guarded("of another function", Build.program(Build.function(0, 0, 0, 0, "guard 0, host 0, return"),
                Build.function(0, 0, 0, 0, "return, return", Build.handler(0, 1, 1))), 0, 1, true);
    }

    /** "(so none for what is never come to)" */
    private static void noneForWhatIsNeverComeTo() {
        GuardForge x = check.with(ROW, Build.program(Build.function(0, 0, 0, 0, "jump 2, host 0, host 0, return, host 0"),
                Build.function(0, 0, 0, 0, "host 0, return")));
        may(x, 0, 1, 0, 1, 2, 0);
        may(x, 1, 0, 0);
        // Come to, when it is verified, but not by any STATE.
        x = check.with(ROW, plain("host 8, pop, host 0, return"));
        check.same("depth", x.codeOf(false, 0, 3, 2), 1);
        may(x, 0, 1, 0, 0, 0);
    }

    /** "ENTRY of FUNCTION 0 has 0." */
    private static void functionZeroBeginsInZero() {
        GuardForge x = check.with(ROW, Build.program(RETURN, RETURN));
        may(x, 0, 1);
        may(x, 1, 0);
        x = check.with("(node a)", plain("return"));
        may(x, 0, 1);
    }

    /** "of GUARD c, and of HOST c that is not GUARDED, all STATES to which one of its MAY goes by a LETTER of c" */
    private static void afterGuardsAndHosts() {
        may(check.with(ROW, plain("host 0, host 0, return")), 0, 1, 2, 4);
        may(check.with(ROW, plain("guard 0, host 0, return")), 0, 1, 2, 2);
        may(check.with(ROW, plain("guard 0, host 4, return")), 0, 1, 2, 2);
        may(check.with(ROW, plain("guard 0, guard 0, host 0, return")), 0, 1, 2, 4, 4);
        // A HOST that is jumped to is not GUARDED, so it leads on once more.
        may(check.with(ROW, plain("guard 0, host 0, return, jump 1")), 0, 1, 2, 4, 0);
        may(check.with(ROW, plain("host 8, return")), 0, 1, 0);
        may(check.with(ROW, plain("guard 8, host 8, return")), 0, 1, 0, 0);
        // By each of its letters, and of several states.
        String fork = "(node a (go 1 (arg 0 less 5) b) (go 1 (arg 0 same 7) c))(node b (go 2 b))(node c (go 3 c))";
        may(check.with(fork, plain("push 1, host 1, return")), 0, 1, 1, 6);
        may(check.with(fork, plain("push 1, guard 1, host 1, return")), 0, 1, 1, 6, 6);
        may(check.with(ROW, plain("load 0, ifnot 4, host 0, pop, host 0, return")), 0, 1, 1, 1, 2, 3, 6);
    }

    /** "of CALL f EXIT of f, if its MAY has one, else nothing" */
    private static void afterCalls() {
        byte[] callee = Build.function(0, 0, 0, 0, "host 0, return");
        GuardForge x = check.with(ROW, Build.program(Build.function(0, 0, 0, 0, "call 1, return"), callee));
        may(x, 0, 1, 2);
        may(x, 1, 1, 2);
        // The second CALL has no STATE, so nothing is behind it, though something comes out of the function.
        x = check.with(ROW, Build.program(Build.function(0, 0, 0, 0, "call 1, host 8, call 1, return"), callee));
        may(x, 0, 1, 2, 0, 0);
        // Nothing comes out of a function that never returns.
        x = check.with(ROW, Build.program(Build.function(0, 0, 0, 0, "call 1, return"), Build.function(0, 0, 0, 0, "jump 0")));
        may(x, 0, 1, 0);
        x = check.with(ROW, Build.program(Build.function(0, 0, 0, 0, "call 1, return"), Build.function(0, 0, 0, 0, "host 0, throw")));
        may(x, 0, 1, 0);
    }

    /** "ENTRY of f has MAY of each CALL f." */
    private static void entryOfEachCall() {
        byte[] callee = Build.function(0, 0, 0, 0, "push 1, throw");
        GuardForge x = check.with(ROW, Build.program(
                Build.function(0, 1, 0, 0, "load 0, if 3, call 1, host 0, pop, load 0, if 8, call 1, host 0, call 2, return"),
                callee, Build.function(0, 0, 0, 0, "call 1, return")));
        may(x, 1, 7, 7);
        may(x, 2, 4, 0);
        // FUNCTION 0, too.
        x = check.with(ROW, Build.program(Build.function(0, 0, 0, 0, "host 0, if 3, return, call 0, return")));
        may(x, 0, 7, 6, 6, 6, 6);
    }

    /** "EXIT of a FUNCTION has MAY of each RETURN of it." */
    private static void exitOfEachReturn() {
        GuardForge x = check.with(ROW, Build.program(Build.function(0, 0, 0, 0, "call 1, return"),
                Build.function(0, 1, 0, 0, "load 0, if 3, return, host 0, if 6, return, host 0, return, host 0, return")));
        may(x, 0, 1, 7);
        may(x, 1, 1, 1, 1, 1, 2, 2, 2, 4, 0, 0);
    }

    /** "ALL of a FUNCTION has MAY of all its INSTRUCTIONS, and ALL of f for each CALL f whose MAY has one." */
    private static void allOfWhatIsCalled() {
        // The handler's target has ALL of what is called, at any depth.
        byte[][] functions = new byte[12][];
        functions[0] = Build.function(0, 0, 0, 0, "call 1, return, return", Build.handler(0, 1, 2));
        for (int f = 1; f < 11; f++) {
            functions[f] = Build.function(0, 0, 0, 0, "call " + (f + 1) + ", return");
        }
        functions[11] = Build.function(0, 0, 0, 0, "host 0, host 0, return");
        GuardForge x = check.with(ROW, Build.program(functions));
        may(x, 0, 1, 4, 7);
        may(x, 11, 1, 2, 4);
        // A CALL in it that has no STATE adds nothing.
        x = check.with(ROW, Build.program(Build.function(0, 0, 0, 0, "call 1, return, return", Build.handler(0, 1, 2)),
                Build.function(0, 0, 0, 0, "return, call 2, return"), Build.function(0, 0, 0, 0, "host 0, return")));
        may(x, 0, 1, 1, 1);
        may(x, 2, 0, 0);
        // A state in which nothing of it ever is, is not in ALL.
        x = check.with(ROW, Build.program(Build.function(0, 0, 0, 0, "host 0, pop, call 1, return, return", Build.handler(2, 3, 4)),
                RETURN));
        may(x, 0, 1, 2, 2, 2, 2);
        may(x, 1, 2);
        // What comes to be in ALL only later reaches the handler, too: the call goes round.
        x = check.with(ROW, Build.program(Build.function(0, 0, 0, 0, "call 1, return, return", Build.handler(0, 1, 2)),
                Build.function(0, 0, 0, 0, "host 0, if 3, return, call 1, return")));
        may(x, 0, 1, 6, 7);
        may(x, 1, 7, 6, 6, 6, 6);
    }

    /** "MAY of each INSTRUCTION in its range that is 9, 10, 21, 22, 23, 25 or 28" */
    private static void whatThrows() {
        String[][] takes = {{"push 1", ""}, {"pop", "i"}, {"dup", "i"}, {"swap", "ii"}, {"load 0", ""}, {"store 0", "i"},
            {"add", "ii"}, {"sub", "ii"}, {"mul", "ii"}, {"div", "ii"}, {"rem", "ii"}, {"and", "ii"}, {"or", "ii"},
            {"xor", "ii"}, {"shl", "ii"}, {"shr", "ii"}, {"less", "ii"}, {"same", "ii"}, {"jump %d", ""}, {"if %d", "i"},
            {"ifnot %d", "i"}, {"new", "i"}, {"get", "ri"}, {"put", "rii"}, {"size", "r"}, {"call 1", ""}, {"host 4", ""},
            {"return", ""}, {"throw", "i"}, {"guard 4", ""}};
        for (int op = 0; op < 30; op++) {
            String puts = takes[op][1].replace("i", "load 0, ").replace("r", "load 1, ");
            int at = takes[op][1].length();
            String words = puts + String.format(takes[op][0], at + 1) + ", return, host 4, return";
            byte[] row = Build.program(Build.function(0, 2, 2, 0, words, Build.handler(at, at + 1, at + 2)), RETURN);
            GuardForge x = check.with(ROW, row);
            boolean throwing = op == 9 || op == 10 || op == 21 || op == 22 || op == 23 || op == 25 || op == 28;
            check.same(takes[op][0] + " in the range", x.mayOf(false, 0, at + 2), throwing ? 1 : 0);
            check.same(takes[op][0] + " itself", x.mayOf(false, 0, at), 1);
        }
    }

    /** "in its range": FROM to before TO */
    private static void rangeOfHandlers() {
        // THROW at 2 in state b, at 5 in state c; 7 is the target.
        String words = "host 0, if 4, load 0, throw, host 0, throw, return, return";
        for (int from = 0; from < 7; from++) {
            for (int to = from + 1; to <= 7; to++) {
                GuardForge x = check.with(ROW, plain(words, Build.handler(from, to, 7)));
                long due = (from <= 3 && to > 3 ? 2 : 0) | (from <= 5 && to > 5 ? 4 : 0);
                check.same("target of " + from + " to " + to, x.mayOf(false, 0, 7), due);
            }
        }
    }

    /** "MAY of the TARGET of a HANDLER": of each HANDLER, of each FUNCTION */
    private static void sixHandlersOfTwelveFunctions() {
        for (int f : new int[] {0, 1, 2, 6, 11}) {
            for (int n = 0; n < 6; n++) {
                byte[][] handlers = new byte[6][];
                for (int h = 0; h < 6; h++) {
                    // Only handler n has the THROW in its range, the others a PUSH.
                    handlers[h] = Build.handler(h == n ? 1 : 0, h == n ? 2 : 1, 2 + h);
                }
                byte[][] functions = new byte[12][];
                for (int k = 0; k < 12; k++) {
                    functions[k] = k == f ? Build.function(0, 0, 0, 0, "push 1, throw, " + Build.times(5, "return", "return"), handlers)
                            : k == 0 ? Build.function(0, 0, 0, 0, "call " + f + ", return") : RETURN;
                }
                GuardForge x = check.with(ROW, Build.program(functions));
                for (int h = 0; h < 6; h++) {
                    check.same("handler " + n + " of function " + f + ", target " + h, x.mayOf(false, f, 2 + h), h == n ? 1 : 0);
                }
            }
        }
    }

    /** Promise 22: "bit p for STATE p": 63 of them */
    private static void sixtyThreeStates() {
        // Any of 0, 4 and 8, and 1, again and again: all states may be everywhere.
        String words = "load 0, if 4, host 0, store 0, load 0, if 8, host 4, store 0, load 0, if 12, host 8, store 0, jump 0";
        GuardForge x = check.with(Policies.sets(63), plain(words));
        check.same("states", x.lookAt(4), 63);
        long all = x.mayOf(false, 0, 0);
        check.same("the pairs of neighbours and those with one between, and the single ones of the row", Long.bitCount(all), 63);
        check.same("bit 63 is none", all, Long.MAX_VALUE);
        check.same("needs", x.codeOf(false, 0, 2, 5), 1);
        check.same("first", x.certifyIt(false), 1 + 2);
    }

    /** "HOST c NEEDS a GUARD if there is a RULE whose C is c, or any" */
    private static void needsByRules() {
        StringBuilder words = new StringBuilder();
        for (int c = 0; c < 16; c++) {
            words.append("push 1, push 1, push 1, host ").append(c).append(", ").append("pop, ".repeat(4 - c % 4));
        }
        int[] place = new int[16];
        int at = 0;
        for (int c = 0; c < 16; c++) {
            place[c] = at + 3;
            at += 4 + 4 - c % 4;
        }
        for (int rule = 0; rule <= 16; rule++) {
            String of = rule == 16 ? "any" : "" + rule;
            // Whatever the rule does, and whether its guards can ever be true.
            String[] rules = {"(counter c 1 (up " + of + "))", "(counter c 1)(counter d 1 (zero " + of + "))",
                "(counter c 1 (up " + of + " (count c more 5)))"};
            GuardForge x = check.with(rules[rule % 3] + "(node a (go any a))", plain(words + "return"));
            for (int c = 0; c < 16; c++) {
                boolean due = rule == 16 || rule == c;
                check.same("rule of " + of + ", host " + c, x.codeOf(false, 0, place[c], 5), due ? 1 : 0);
            }
        }
        GuardForge x = check.with("(counter c 1)(node a (go any (count c less 9) a))", plain("host 0, return"));
        check.same("a counter without a rule", x.codeOf(false, 0, 0, 5), 0);
        x = check.with("(counter c 1 (up 4))(node a (go any a))", plain("return, host 4, host 0"));
        check.same("never come to", x.codeOf(false, 0, 1, 5), 1);
        check.same("never come to, without a rule", x.codeOf(false, 0, 2, 5), 0);
        check.same("what is no HOST", x.codeOf(false, 0, 0, 5), 0);
    }

    /** "or if a STATE of its MAY goes nowhere, or to another STATE, by a LETTER of c" */
    private static void needsByStates() {
        GuardForge x = check.with(ROW, plain("host 4, host 8, return"));
        check.same("it stays", x.codeOf(false, 0, 0, 5), 0);
        check.same("nowhere", x.codeOf(false, 0, 1, 5), 1);
        x = check.with(ROW, plain("host 0, host 0, host 8, host 4, return"));
        check.same("to another", x.codeOf(false, 0, 0, 5), 1);
        check.same("to another again", x.codeOf(false, 0, 1, 5), 1);
        check.same("c stays by 8", x.codeOf(false, 0, 2, 5), 0);
        check.same("c stays by 4", x.codeOf(false, 0, 3, 5), 0);
        // One of two STATES is enough: behind the branch there are b and c, and b goes nowhere by 8.
        x = check.with(ROW, plain("host 0, ifnot 4, host 0, pop, host 8, return"));
        check.same("one of two goes nowhere", x.codeOf(false, 0, 4, 5), 1);
        // None of its MAY, nothing it needs.
        x = check.with(ROW, plain("host 8, pop, host 8, return, host 8"));
        check.same("no STATE", x.codeOf(false, 0, 2, 5), 0);
        check.same("never come to", x.codeOf(false, 0, 4, 5), 0);
        // A GUARD of its own does not change what it needs.
        x = check.with(ROW, plain("guard 0, host 0, return"));
        check.same("guarded, and b goes to c", x.codeOf(false, 0, 1, 5), 1);
    }

    /** "by a LETTER of c": one is enough, the first or the last */
    private static void needsByEachLetter() {
        for (int k = 0; k < 3; k++) {
            String[] kinds = {"(not (arg 0 less 5))", "(not (arg 0 same 5))", "(not (arg 0 more 5))"};
            String text = "(node a (go 1 " + kinds[k] + " a) (go 2 (arg 0 less 5) a) (go 2 (arg 0 same 5) a) (go 2 (arg 0 more 5) a)"
                    + " (go 3 a) (go 3 (arg 2 " + new String[] {"less", "same", "more"}[k] + " 5) b))(node b (go 4 b))";
            GuardForge x = check.with(text, plain("push 1, host 1, push 1, host 2, push 1, push 1, host 3, return"));
            check.same("nowhere by letter " + k, x.codeOf(false, 0, 1, 5), 1);
            check.same("it stays by all", x.codeOf(false, 0, 3, 5), 0);
            check.same("elsewhere by letter " + k, x.codeOf(false, 0, 6, 5), 1);
        }
    }

    /** "each HOST that NEEDS a GUARD (come to or not) is GUARDED" */
    private static void certifiedHosts() {
        certified("needs none", ROW, plain("host 4, return"), 0);
        certified("needs one", ROW, plain("host 0, return"), 1);
        certified("has one", ROW, plain("guard 0, host 0, return"), 0);
        certified("has one that is jumped over", ROW, plain("guard 0, host 0, if 1, return"), 1);
        certified("needs none, and has one", ROW, plain("guard 4, host 4, return"), 0);
        certified("never come to", RULED, plain("return, host 0"), 1 + 1);
        certified("never come to, with a guard", RULED, plain("return, guard 0, host 0"), 0);
        certified("never come to, without a rule", ROW, plain("return, host 0"), 0);
    }

    /** "and each GUARD c has a HOST c behind it that is GUARDED" */
    private static void certifiedGuards() {
        certified("no HOST", ROW, plain("guard 4, return"), 1);
        certified("the last instruction", ROW, plain("return, guard 4"), 1 + 1);
        certified("the last of 400", ROW, plain(Build.times(399, "return", "guard 4")), 1 + 399);
        certified("a HOST of the next function", ROW, Build.program(Build.function(0, 0, 0, 0, Build.times(399, "return", "guard 4")),
                Build.function(0, 0, 0, 0, "host 4, return")), 1 + 399);
        certified("of another call", ROW, plain("guard 4, host 12, return"), 1);
        certified("one between", ROW, plain("guard 4, push 1, host 4, return"), 1);
        certified("two guards", ROW, plain("guard 4, guard 4, host 4, return"), 1);
        certified("jumped to", ROW, plain("guard 4, host 4, return, jump 1"), 1);
        certified("never come to", ROW, plain("return, guard 4, return"), 1 + 1);
    }

    /** Promise 10: "1 + 512 * the FUNCTION + the INSTRUCTION, of the first that keeps it from that" */
    private static void firstThatKeepsItFromThat() {
        for (int f : new int[] {0, 1, 11}) {
            for (int i : new int[] {0, 1, 255, 256, 399}) {
                String words = i == 0 ? "host 0, return" : Build.times(i, "return", i % 2 == 0 ? "host 0" : "guard 0");
                byte[][] functions = new byte[12][];
                for (int k = 0; k < 12; k++) {
                    // Those behind it have more of the kind.
                    functions[k] = k < f ? RETURN : Build.function(0, 0, 0, 0, k == f ? words : "return, host 0, guard 0");
                }
                certified("in " + f + " at " + i, RULED, Build.program(functions), 1 + 512 * f + i);
            }
        }
        certified("a HOST ahead of a GUARD", RULED, plain("host 0, guard 0, return"), 1);
        certified("a GUARD ahead of a HOST", RULED, plain("guard 4, host 0, return"), 1);
    }

    /** Promise 9: "NONE if there is no PROGRAM, or it has a GUARD" */
    private static void noneToForge() {
        GuardForge x = check.with(RULED);
        check.same("no program", x.forgeIt(), -1);
        check.same("nothing forged", x.lookAt(7), -1);
        check.same("a fault", Check.program(x, plain("pop")), 5);
        check.same("no program still", x.forgeIt(), -1);
        String[] withGuard = {"guard 0, host 0, return", "return, guard 0", "return, guard 4, host 0",
            Build.times(399, "return", "guard 0")};
        for (String words : withGuard) {
            check.same("load", Check.program(x, plain(words)), 0);
            check.same("it has a guard", x.forgeIt(), -1);
            check.same("nothing forged", x.lookAt(7), -1);
        }
        GuardForge y = check.with(RULED, Build.program(RETURN, Build.function(0, 0, 0, 0, "return, guard 0")));
        check.same("a guard in function 1", y.forgeIt(), -1);
        check.same("load", Check.program(y, plain("return")), 0);
        check.same("none any more", y.forgeIt(), 0);
        check.same("forged", y.lookAt(7), 1);
    }

    /** "jumps, TARGETS, FROM and TO go to where what they went to is, with its GUARD, if it has one" */
    private static void forgeMovesAll() {
        // HOST 0 at 1, 3 and 6 gets a guard, HOST 4 at 5 none.
        String words = "jump 1, host 0, pop, host 0, pop, host 4, host 0, return";
        int[] moved = {0, 1, 3, 4, 6, 7, 8, 10, 11};
        String forged = "jump 1, guard 0, host 0, pop, guard 0, host 0, pop, host 4, guard 0, host 0, return";
        for (String jump : new String[] {"jump ", "if ", "ifnot "}) {
            int[] to = {0, 1, 2, 4, 5, 7, 9, 10, 11, 13};
            for (int t = 0; t < 10; t++) {
                GuardForge x = check.with(RULED, plain("return, " + jump + t
                        + ", host 0, return, host 0, host 0, return, host 4, host 0, return"));
                check.same("forge", x.forgeIt(), 4);
                sameBytes(x, plain("return, " + jump + to[t] + ", guard 0, host 0, return, guard 0, host 0, guard 0, host 0, "
                        + "return, host 4, guard 0, host 0, return"));
            }
        }
        for (int from = 0; from < 8; from++) {
            for (int to = from + 1; to <= 8; to += 2) {
                // The target is the POP at 2 or 4, or one with nothing else: come to with one INT.
                int target = from % 2 == 0 ? 2 : 4;
                byte[] row = Build.program(Build.function(0, 0, 0, 0, words, Build.handler(from, to, target, 7)));
                GuardForge x = check.with(RULED, row);
                check.same("forge", x.forgeIt(), 3);
                byte[] due = Build.program(Build.function(0, 0, 0, 0, forged, Build.handler(moved[from], moved[to], moved[target], 7)));
                sameBytes(x, due);
            }
        }
        GuardForge x = check.with(RULED, Build.program(Build.function(0, 0, 0, 0, "push 1, host 1, return", Build.handler(0, 1, 1))));
        check.same("forge", x.forgeIt(), 1);
        sameBytes(x, Build.program(Build.function(0, 0, 0, 0, "push 1, guard 1, host 1, return", Build.handler(0, 1, 1))));
    }

    /** "jumps, TARGETS, FROM and TO": as many as there can be, in the last function, too */
    private static void forgeMovesMost() {
        byte[][] functions = new byte[12][];
        byte[][] due = new byte[12][];
        for (int f = 0; f < 12; f++) {
            byte[][] handlers = new byte[6][];
            byte[][] moved = new byte[6][];
            for (int h = 0; h < 6; h++) {
                handlers[h] = h % 2 == 0 ? Build.handler(h / 2, 3, 2) : Build.handler(1, 2 + h / 5, 2, f + h);
                moved[h] = h % 2 == 0 ? Build.handler(h == 0 ? 0 : h / 2 + 1, 4, 3) : Build.handler(2, 3 + h / 5, 3, f + h);
            }
            functions[f] = Build.function(0, 0, 0, 1, "host 0, jump 2, return", handlers);
            due[f] = Build.function(0, 0, 0, 1, "guard 0, host 0, jump 3, return", moved);
        }
        GuardForge x = check.with(RULED, Build.program(functions));
        check.same("forge", x.forgeIt(), 12);
        byte[] row = Build.program(due);
        check.same("saved", x.saveProgram(true), row.length);
        // An object has not calls enough for all of them.
        for (int k = row.length % 3; k < row.length; k += 3) {
            check.same("byte " + k, x.byteOf(k, false), row[k] & 255);
        }
        x.turnBytes();
        check.same("load", x.loadProgram(), 0);
        check.same("certified", x.certifyIt(false), 0);
        check.same("handlers of the last", x.functionOf(false, 11, 4), 6);
    }

    private static void sameBytes(GuardForge x, byte[] due) {
        check.same("saved", x.saveProgram(true), due.length);
        for (int k = 0; k < due.length; k++) {
            check.same("byte " + k, x.byteOf(k, false), due[k] & 255);
        }
        check.same("none behind", x.byteOf(due.length, false), -1);
        check.same("certified", x.certifyIt(true), 0);
    }

    /** Promise 9: "-2 if a FUNCTION would have more than 400 INSTRUCTIONS" */
    private static void fourHundredInstructions() {
        // Unlike by bytes, this can be come to within 512 calls, in the first function and in the last.
        for (int f : new int[] {0, 1, 11}) {
            for (int hosts = 199; hosts <= 201; hosts++) {
                for (int others = 1; others <= 2; others++) {
                    byte[][] functions = new byte[12][];
                    for (int k = 0; k < 12; k++) {
                        functions[k] = k == f ? Build.function(0, 0, 0, 0, Build.times(others, "return",
                                Build.times(hosts - 1, "host 0", "host 0"))) : RETURN;
                    }
                    GuardForge x = check.with("(counter c 1(up 0))(node a)", Build.program(functions));
                    int size = others + 2 * hosts;
                    check.same("forge to " + size, x.forgeIt(), size > 400 ? -2 : hosts);
                    check.same("instructions", x.lookAt(7), size > 400 ? -1 : size + 11);
                    check.same("function", x.functionOf(true, f, 3), size > 400 ? -1 : size);
                }
            }
        }
        GuardForge x = check.with("(counter c 1(up 0))(node a)", plain(Build.times(399, "return", "return")));
        check.same("400 that need none", x.forgeIt(), 0);
        check.same("400", x.lookAt(7), 400);
        x = check.with("(counter c 1(up 0))(node a)", plain(Build.times(399, "return", "host 0")));
        check.same("400, and one of them needs one", x.forgeIt(), -2);
        x = check.with("(counter c 1(up 0))(node a)", plain(Build.times(398, "return", "host 0")));
        check.same("399, and one of them needs one", x.forgeIt(), 1);
        check.same("400", x.functionOf(true, 0, 3), 400);
        check.same("the last is the HOST", x.codeOf(true, 0, 399, 0), 26);
        check.same("it is guarded", x.codeOf(true, 0, 399, 4), 1);
        check.same("certified", x.certifyIt(true), 0);
    }

    /** Promise 9: "-2 if .. its bytes would be more than 8192", which takes more than the 512 calls that are promised */
    private static void bytesOfWhatIsForged() {
        // One of each INSTRUCTION, a HANDLER for any code and two for one code count as long as they are.
        StringBuilder each = new StringBuilder();
        for (int op = 0; op < 29; op++) {
            each.append(Build.NAMES.get(op)).append(Build.width(op) > 0 ? " 0" : "").append(", ");
        }
        for (int over = -1; over <= 1; over++) {
            byte[][] functions = new byte[12][];
            int bytes = 4;
            for (int f = 0; f < 11; f++) {
                functions[f] = f < 10 ? Build.function(0, 0, 0, 0, "return, " + Build.times(197, "host 0", "return"))
                        : Build.function(0, 1, 0, 0, "return, " + each + "return", Build.handler(1, 2, 1),
                                Build.handler(1, 2, 1, 5), Build.handler(1, 2, 1, 6));
                bytes += functions[f].length + 2 * (f < 10 ? 197 : 1);
            }
            int left = 8192 + over - bytes - 8;
            functions[11] = Build.function(0, 0, 0, 0, Build.times(left - 1, "return", "return"));
            GuardForge x = check.with("(counter c 1(up 0))(node a)", Build.program(functions));
            check.same("forge to " + over + " more than 8192 bytes", x.forgeIt(), over > 0 ? -2 : 1971);
            check.same("saved", x.saveProgram(true), over > 0 ? -1 : 8192 + over);
        }
    }

    /** "the least sets of STATES": nothing is left of what the object was used for before */
    private static void usedBefore() {
        byte[] wide = Build.program(
                Build.function(0, 0, 0, 0, "call 1, host 0, pop, call 2, return, return", Build.handler(0, 4, 5)),
                Build.function(0, 0, 0, 0, "host 0, if 3, return, host 0, return"),
                Build.function(0, 0, 0, 0, "host 4, return"));
        byte[] narrow = Build.program(
                Build.function(0, 0, 0, 0, "call 1, host 0, pop, call 2, return, return", Build.handler(0, 1, 5)),
                Build.function(0, 0, 0, 0, "jump 0"), Build.function(0, 0, 0, 0, "host 4, return"));
        GuardForge x = check.with(ROW, wide);
        for (int n = 0; n < 4; n++) {
            check.same("load", Check.program(x, wide), 0);
            may(x, 0, 1, 6, 4, 4, 4, 7);
            check.same("forge", x.forgeIt(), 3);
            check.same("load", Check.program(x, narrow), 0);
            may(x, 0, 1, 0, 0, 0, 0, 1);
            may(x, 1, 1);
            may(x, 2, 0, 0);
            check.same("forge", x.forgeIt(), 0);
            check.same("may of what is forged", x.mayOf(true, 0, 5), 1);
        }
    }

    /** Promise 6: "(MAY, NEEDS and CERTIFIED are by this POLICY)" */
    private static void byThisPolicy() {
        GuardForge x = check.with(ROW, plain("host 0, host 4, return"));
        for (int n = 0; n < 3; n++) {
            check.same("row", Check.policy(x, ROW), 0);
            may(x, 0, 1, 2, 2);
            check.same("needs by the row", x.codeOf(false, 0, 0, 5), 1);
            check.same("needs none by the row", x.codeOf(false, 0, 1, 5), 0);
            check.same("certified by the row", x.certifyIt(false), 1);
            check.same("a rule of 4", Check.policy(x, "(counter c 1 (up 4))(node a (go any a))"), 0);
            may(x, 0, 1, 1, 1);
            check.same("needs none by the rule", x.codeOf(false, 0, 0, 5), 0);
            check.same("needs by the rule", x.codeOf(false, 0, 1, 5), 1);
            check.same("certified by the rule", x.certifyIt(false), 2);
            check.same("any", Check.policy(x, "(node a (go any a))"), 0);
            check.same("needs nothing", x.certifyIt(false), 0);
            check.same("needs nothing", x.codeOf(false, 0, 1, 5), 0);
        }
        // However often, with as many calls as there can be.
        x = check.with("(node a)", Build.program(Build.function(0, 0, 0, 0, Build.times(398, "call 1", "host 0, return")), RETURN));
        for (int n = 0; n < 20; n++) {
            check.same("policy", Check.policy(x, n % 2 == 0 ? "(node a (go 0 a))" : "(node a)"), 0);
            check.same("needs", x.codeOf(false, 0, 398, 5), n % 2);
            check.same("may behind all calls", x.mayOf(false, 0, 399), n % 2 == 0 ? 1 : 0);
        }
    }
}
