/**
 * Promises 1 to 25 in their order, one method each, the promise ahead of it: all that it says of ordinary inputs, on
 * one policy and one program. Boundary cases are in the tests whose names end in EdgesTest, and in RefusedTest.
 */
public final class PromisesTest {
    private static final Check check = new Check("PromisesTest");
    private static final int LOW = Integer.MIN_VALUE;

    /** STATE 0 is a, 1 is b. LETTERS are 0 of call 0, 1 (below 5) and 2 of call 1, and one of each other call. */
    private static final String POLICY = "(counter c 2 (up 1) (up 2))(counter d 3 (up 0))"
            + "(node a (go 1 (arg 0 less 5) b) (go 0 a) (go 4 a))(node b (go 2 a) (go 0 b) (go 4 b))";
    private static final String WORDS = "push 3, host 1, pop, host 4, pop, push 6, push 7, host 2, call 1, push 1, add, return";
    private static final String FORGED_WORDS = "push 3, guard 1, host 1, pop, host 4, pop, push 6, push 7, guard 2, host 2, call 1, "
            + "push 1, add, return";
    /** Makes a row of as many INTS as its PARAM says, and has its size, or 3, the code that NEW throws. */
    private static final byte[] CALLED = Build.function(1, 2, 2, 1, "load 0, new, store 1, load 1, size, return",
            Build.handler(1, 2, 5, 3));
    private static final byte[] PROGRAM = Build.program(Build.function(0, 0, 0, 1, WORDS), CALLED);
    private static final byte[] FORGED = Build.program(Build.function(0, 0, 0, 1, FORGED_WORDS), CALLED);

    public static void main(String[] args) {
        newObject();
        giveBytes();
        cutBytes();
        pokeByte();
        turnBytes();
        loadPolicy();
        loadProgram();
        saveProgram();
        forgeIt();
        certifyIt();
        addAnswer();
        dropAnswers();
        runIt();
        endOf();
        traceAt();
        counterOf();
        resetWatch();
        watchCall();
        wayOf();
        letterOf();
        codeOf();
        mayOf();
        functionOf();
        byteOf();
        lookAt();
        check.end();
    }

    private static GuardForge loaded() {
        return check.with(POLICY, PROGRAM);
    }

    private static GuardForge forged() {
        GuardForge x = loaded();
        check.same("forgeIt", x.forgeIt(), 2);
        return x;
    }

    private static void give(GuardForge x, int... answers) {
        x.dropAnswers();
        for (int k = 0; k < answers.length; k++) {
            check.same("addAnswer", x.addAnswer(answers[k]), k + 1);
        }
    }

    private static void bytes(GuardForge x, boolean into, int... due) {
        check.same("how many", x.lookAt(into ? 9 : 10), due.length);
        for (int k = 0; k < due.length; k++) {
            check.same("byte " + k, x.byteOf(k, into), due[k]);
        }
        check.same("none behind", x.byteOf(due.length, into), -1);
    }

    private static void written(GuardForge x, byte[] due) {
        int[] row = new int[due.length];
        for (int k = 0; k < row.length; k++) {
            row[k] = due[k] & 255;
        }
        bytes(x, false, row);
    }

    /** "No BYTES; the POLICY is (node a (go any a)); no PROGRAM, nothing FORGED; no ANSWERS; no RUN; THE WATCH is as at first." */
    private static void newObject() {
        GuardForge used = forged();
        give(used, 1, 2);
        used.runIt(true, 100);
        used.watchCall(1, 0, 0, 0);
        used.saveProgram(true);
        // What other objects were used for is not seen.
        GuardForge x = new GuardForge();
        GuardForge y = check.with("(node a (go any a))");
        y.cutBytes(0);
        for (int which = -1; which <= 14; which++) {
            check.same("lookAt(" + which + ")", x.lookAt(which), y.lookAt(which));
        }
        bytes(x, true);
        bytes(x, false);
        for (int letter = -1; letter <= 16; letter++) {
            check.same("wayOf(0, " + letter + ")", x.wayOf(0, letter), y.wayOf(0, letter));
            for (int what = 0; what <= 4; what++) {
                check.same("letterOf(" + letter + ", " + what + ")", x.letterOf(letter, what), y.letterOf(letter, what));
            }
        }
        check.same("no program to run", x.runIt(false, 9), -1);
        check.same("nothing forged to run", x.runIt(true, 9), -1);
        check.same("no answers", x.lookAt(8), 0);
        check.same("no run", x.endOf(0), -1);
        check.same("the watch", x.lookAt(13), 0);
        check.same("the used one is as it was", used.lookAt(13), 1);
    }

    /**
     * "n bytes of v, 1 .. 8, the highest first (of its lowest n), come to the BYTES, of which there are up to 8192: true;
     * false if n is not as said, or there is no room."
     */
    private static void giveBytes() {
        GuardForge x = new GuardForge();
        check.same("three", x.giveBytes(0x11223344L, 3), true);
        check.same("one", x.giveBytes(-1, 1), true);
        check.same("eight", x.giveBytes(0x0102030405060708L, 8), true);
        check.same("none", x.giveBytes(5, 0), false);
        check.same("nine", x.giveBytes(5, 9), false);
        bytes(x, true, 0x22, 0x33, 0x44, 255, 1, 2, 3, 4, 5, 6, 7, 8);
    }

    /** "There are the first n BYTES alone: true; false if there are fewer, or n is below 0." */
    private static void cutBytes() {
        GuardForge x = new GuardForge();
        x.giveBytes(0x0102030405L, 5);
        check.same("six of five", x.cutBytes(6), false);
        check.same("below 0", x.cutBytes(-1), false);
        bytes(x, true, 1, 2, 3, 4, 5);
        check.same("two", x.cutBytes(2), true);
        bytes(x, true, 1, 2);
        check.same("none", x.cutBytes(0), true);
        bytes(x, true);
    }

    /** "BYTE k is b now (its lowest eight bits): true; false if there is none such." */
    private static void pokeByte() {
        GuardForge x = new GuardForge();
        x.giveBytes(0x010203L, 3);
        check.same("the one between", x.pokeByte(1, 0x7F80), true);
        check.same("behind the last", x.pokeByte(3, 9), false);
        check.same("ahead of the first", x.pokeByte(-1, 9), false);
        bytes(x, true, 1, 128, 3);
    }

    /** "The BYTES become what the WRITTEN bytes are, which stay (none, if there are none)." */
    private static void turnBytes() {
        GuardForge x = check.with(Build.program(Build.function(0, 0, 0, 0, "return")));
        x.turnBytes();
        bytes(x, true);
        check.same("save", x.saveProgram(false), 13);
        x.giveBytes(77, 1);
        x.turnBytes();
        bytes(x, true, 71, 70, 1, 1, 0, 0, 0, 0, 0, 0, 1, 27, 0);
        bytes(x, false, 71, 70, 1, 1, 0, 0, 0, 0, 0, 0, 1, 27, 0);
    }

    /**
     * "The BYTES are read as a text: 0, and that is the POLICY, nothing is FORGED, THE WATCH is as at first, the PROGRAM stays
     * (MAY, NEEDS and CERTIFIED are by this POLICY); else its fault."
     */
    private static void loadPolicy() {
        GuardForge x = forged();
        x.watchCall(1, 0, 0, 0);
        check.same("certified", x.certifyIt(true), 0);
        check.same("a fault", Check.policy(x, POLICY + "?"), 1);
        check.same("forged stays", x.certifyIt(true), 0);
        check.same("the watch stays", x.lookAt(13), 1);
        check.same("another policy", Check.policy(x, "(counter c 2 (up 4))(node a (go any a))"), 0);
        check.same("nothing forged", x.certifyIt(true), -1);
        check.same("the watch is as at first", x.lookAt(13), 0);
        check.same("and its counter", x.counterOf(0, true), 0);
        check.same("the program stays", x.lookAt(6), 18);
        check.same("HOST 1 needs none by it", x.codeOf(false, 0, 1, 5), 0);
        check.same("HOST 4 does", x.codeOf(false, 0, 3, 5), 1);
        check.same("may by it", x.mayOf(false, 0, 3), 1);
        check.same("certified by it", x.certifyIt(false), 1 + 3);
        check.same("forged by it", x.forgeIt(), 1);
    }

    /** "The BYTES are read as a PROGRAM: 0, and that is the PROGRAM, nothing is FORGED (THE WATCH stays); else its fault." */
    private static void loadProgram() {
        GuardForge x = forged();
        x.watchCall(1, 0, 0, 0);
        check.same("a fault", Check.program(x, Build.join(PROGRAM, new byte[1])), 4);
        check.same("the program stays", x.lookAt(6), 18);
        check.same("forged stays", x.lookAt(7), 20);
        check.same("another program", Check.program(x, Build.program(Build.function(0, 0, 0, 0, "host 0, return"))), 0);
        check.same("that is it", x.lookAt(6), 2);
        check.same("nothing forged", x.lookAt(7), -1);
        check.same("the watch stays", x.lookAt(13), 1);
        check.same("and its counter", x.counterOf(0, true), 1);
    }

    /** "The PROGRAM's (or what was FORGED's) bytes are the WRITTEN ones: how many; NONE if there is none such." */
    private static void saveProgram() {
        GuardForge x = loaded();
        check.same("nothing forged", x.saveProgram(true), -1);
        check.same("the program", x.saveProgram(false), PROGRAM.length);
        written(x, PROGRAM);
        check.same("forge", x.forgeIt(), 2);
        check.same("what was forged", x.saveProgram(true), FORGED.length);
        written(x, FORGED);
        check.same("no program", new GuardForge().saveProgram(false), -1);
    }

    /**
     * "The PROGRAM is FORGED: how many GUARDS were put in. NONE if there is no PROGRAM, or it has a GUARD; -2 if a FUNCTION would
     * have more than 400 INSTRUCTIONS, or its bytes would be more than 8192 (what was FORGED before stays, both)."
     */
    private static void forgeIt() {
        GuardForge x = loaded();
        check.same("two guards", x.forgeIt(), 2);
        check.same("the program has none still", x.lookAt(6), 18);
        check.same("what was forged has them", x.lookAt(7), 20);
        check.same("forged again", x.forgeIt(), 2);
        x.saveProgram(true);
        x.turnBytes();
        check.same("load what was forged", x.loadProgram(), 0);
        check.same("it has a guard", x.forgeIt(), -1);
        check.same("no program", new GuardForge().forgeIt(), -1);
        check.same("400", Check.program(x, Build.program(Build.function(0, 0, 0, 0, Build.times(399, "return", "host 0")))), 0);
        check.same("401 would be too many", x.forgeIt(), -2);
    }

    /**
     * "Whether the PROGRAM (or what was FORGED) is CERTIFIED: 0; else 1 + 512 * the FUNCTION + the INSTRUCTION, of the first that
     * keeps it from that, a HOST that NEEDS a GUARD and has none, or a GUARD that has no HOST. NONE if there is none such."
     */
    private static void certifyIt() {
        GuardForge x = loaded();
        check.same("HOST 1 has none", x.certifyIt(false), 1 + 1);
        check.same("nothing forged", x.certifyIt(true), -1);
        check.same("forge", x.forgeIt(), 2);
        check.same("the program is as it was", x.certifyIt(false), 1 + 1);
        check.same("what was forged", x.certifyIt(true), 0);
        check.same("made by hand", Check.program(x, FORGED), 0);
        check.same("certified, whoever made it", x.certifyIt(false), 0);
        byte[] guard = Build.program(Build.function(0, 0, 0, 0, "return"), Build.function(0, 0, 0, 0, "return, guard 4, return, host 1"));
        check.same("a guard without a host", Check.program(x, guard), 0);
        check.same("it is told", x.certifyIt(false), 1 + 512 + 1);
    }

    /** "One more ANSWER: how many there are; NONE if there are 256." */
    private static void addAnswer() {
        GuardForge x = new GuardForge();
        for (int n = 1; n <= 256; n++) {
            check.same("answer " + n, x.addAnswer(-n), n);
        }
        check.same("answer 257", x.addAnswer(5), -1);
        check.same("256", x.lookAt(8), 256);
    }

    /** "No ANSWERS any more." */
    private static void dropAnswers() {
        GuardForge x = loaded();
        give(x, 10, 20, 30);
        x.dropAnswers();
        check.same("none", x.lookAt(8), 0);
        check.same("run", x.runIt(false, 100), 0);
        for (int i = 0; i < 3; i++) {
            check.same("the answer of " + i, x.traceAt(i, 4), 0);
        }
        check.same("the first again", x.addAnswer(7), 1);
    }

    /**
     * "A RUN of the PROGRAM (or what was FORGED), with such FUEL, 0 .. 20000: how it ENDS; NONE if there is none such, or no such
     * FUEL (the latest RUN stays)."
     */
    private static void runIt() {
        GuardForge x = loaded();
        give(x, 10, 20, 30);
        check.same("nothing forged", x.runIt(true, 100), -1);
        check.same("it returns", x.runIt(false, 100), 0);
        check.same("fuel -1", x.runIt(false, -1), -1);
        check.same("fuel 20001", x.runIt(false, 20001), -1);
        check.same("the latest run stays", x.endOf(1), 31);
        check.same("fuel is gone", x.runIt(false, 17), 3);
        // A row of 257 INTS can't be, and the HANDLER is for what NEW throws.
        give(x, 10, 20, 257);
        check.same("caught", x.runIt(false, 100), 0);
        check.same("the code and 1", x.endOf(1), 4);
        check.same("thrown", Check.program(x, Build.program(Build.function(0, 0, 0, 0, "push 9, throw"))), 0);
        check.same("by none", x.runIt(false, 100), 1);
        check.same("guarded", Check.program(x, Build.program(Build.function(0, 0, 0, 0, "push 5, guard 1, return"))), 0);
        check.same("stopped", x.runIt(false, 100), 2);
    }

    private static void ended(GuardForge x, int... due) {
        for (int what = 0; what < 8; what++) {
            check.same("endOf(" + what + ")", x.endOf(what), due[what]);
        }
    }

    /**
     * "Of the latest RUN: what 0: how it ended, 1: its value (0 if it ended 2 or 3), 2: STEPS, 3: CALLS OUTSIDE, 4: GUARDS that were
     * passed (one at which it ENDS 2 is not), 5: the STATE of its WATCH, 6: INTS of all ROWS, 7: the most FUNCTIONS that were done
     * at once (FUNCTION 0 is, from the beginning on). NONE if there was none since the latest loadPolicy() or loadProgram() that
     * answered 0, or no such what."
     */
    private static void endOf() {
        GuardForge x = forged();
        check.same("no run", x.endOf(0), -1);
        give(x, 10, 20, 30);
        check.same("forged", x.runIt(true, 100), 0);
        ended(x, 0, 31, 18, 3, 2, 0, 30, 2);
        check.same("the program", x.runIt(false, 100), 0);
        ended(x, 0, 31, 18, 3, 0, 0, 30, 2);
        check.same("three steps", x.runIt(true, 3), 3);
        ended(x, 3, 0, 3, 1, 1, 1, 0, 1);
        check.same("load", Check.program(x, Build.program(Build.function(0, 0, 0, 1, "push 4, guard 1, host 1, guard 1, host 1, return"))), 0);
        check.same("no run", x.endOf(0), -1);
        check.same("stopped by the second guard", x.runIt(false, 100), 2);
        ended(x, 2, 0, 2, 1, 1, 1, 0, 1);
        check.same("endOf(8)", x.endOf(8), -1);
        check.same("endOf(-1)", x.endOf(-1), -1);
    }

    /**
     * "Of CALL OUTSIDE i of the latest RUN, from 0 on (the first 256 are kept): what 0: its number, 1 .. 3: its ARGUMENTS 0 .. 2
     * (0 if it has none such), 4: its ANSWER. 0 if it is not kept, or there is none such, no such what, or no RUN (as for endOf())."
     */
    private static void traceAt() {
        GuardForge x = forged();
        check.same("no run", x.traceAt(0, 0), 0);
        give(x, 10, 20, 30);
        int[][] due = {{1, 3, 0, 0, 10, 0}, {4, 0, 0, 0, 20, 0}, {2, 6, 7, 0, 30, 0}, {0, 0, 0, 0, 0, 0}};
        for (boolean of : new boolean[] {false, true}) {
            check.same("run", x.runIt(of, 100), 0);
            for (int i = 0; i < 4; i++) {
                for (int what = 0; what <= 5; what++) {
                    check.same("traceAt(" + i + ", " + what + ")", x.traceAt(i, what), due[i][what]);
                }
            }
        }
        check.same("load", Check.policy(x, POLICY), 0);
        check.same("no run any more", x.traceAt(0, 0), 0);
    }

    /**
     * "COUNTER k behind the latest RUN (watch false), or of THE WATCH that is stepped by watchCall(); NONE if there is none such, or
     * for the RUN if there is none (as for endOf())."
     */
    private static void counterOf() {
        GuardForge x = forged();
        check.same("no run", x.counterOf(0, false), -1);
        check.same("the watch", x.counterOf(0, true), 0);
        check.same("run", x.runIt(true, 100), 0);
        x.watchCall(1, 0, 0, 0);
        x.watchCall(0, 0, 0, 0);
        check.same("c behind the run", x.counterOf(0, false), 2);
        check.same("d behind the run", x.counterOf(1, false), 0);
        check.same("c of the watch", x.counterOf(0, true), 1);
        check.same("d of the watch", x.counterOf(1, true), 1);
        check.same("none such", x.counterOf(2, false), -1);
        check.same("none such", x.counterOf(2, true), -1);
        // Without guards nothing is counted.
        check.same("run", x.runIt(false, 100), 0);
        check.same("c behind the run", x.counterOf(0, false), 0);
    }

    /** "THE WATCH is as at first." */
    private static void resetWatch() {
        GuardForge x = forged();
        check.same("run", x.runIt(true, 100), 0);
        x.watchCall(1, 0, 0, 0);
        x.resetWatch();
        check.same("state", x.lookAt(13), 0);
        check.same("counter", x.counterOf(0, true), 0);
        check.same("that of the run stays", x.counterOf(0, false), 2);
    }

    /**
     * "THE WATCH goes along with a CALL OUTSIDE with these ARGUMENTS (those that it has; others are not looked at): its STATE then;
     * NONE if there is no such number, or it goes nowhere (THE WATCH stays)."
     */
    private static void watchCall() {
        GuardForge x = check.with(POLICY);
        check.same("argument 0 is 5", x.watchCall(1, 5, 0, 0), -1);
        check.same("it stays", x.counterOf(0, true), 0);
        check.same("argument 0 is 4", x.watchCall(1, 4, 99, 99), 1);
        check.same("c", x.counterOf(0, true), 1);
        check.same("from b nowhere", x.watchCall(1, 4, 0, 0), -1);
        check.same("c stays", x.counterOf(0, true), 1);
        check.same("the state stays", x.lookAt(13), 1);
        check.same("0 stays in b", x.watchCall(0, 5, 5, 5), 1);
        check.same("d", x.counterOf(1, true), 1);
        check.same("back to a", x.watchCall(2, 5, 5, 5), 0);
        check.same("c", x.counterOf(0, true), 2);
        check.same("to b again", x.watchCall(1, LOW, 0, 0), 1);
        check.same("c is 2 at most", x.counterOf(0, true), 2);
        check.same("no such number", x.watchCall(16, 0, 0, 0), -1);
        check.same("no such number", x.watchCall(-1, 0, 0, 0), -1);
    }

    /** "Where a STATE goes by a LETTER; NONE if nowhere, or there is none such." */
    private static void wayOf() {
        GuardForge x = check.with(POLICY);
        int[] fromA = {0, 1, -1, -1, -1, 0};
        int[] fromB = {1, -1, -1, 0, -1, 1};
        for (int letter = 0; letter <= 17; letter++) {
            check.same("wayOf(0, " + letter + ")", x.wayOf(0, letter), letter < 6 ? fromA[letter] : -1);
            check.same("wayOf(1, " + letter + ")", x.wayOf(1, letter), letter < 6 ? fromB[letter] : -1);
            check.same("wayOf(2, " + letter + ")", x.wayOf(2, letter), -1);
        }
    }

    /**
     * "Of a LETTER: what 0: its number of a CALL OUTSIDE, 1 .. 3: the least int of its INTERVAL of ARGUMENT 0 .. 2, 4 .. 9: that of
     * its INTERVAL of COUNTER 0 .. 5 (-2147483648 for the lowest one of an ARGUMENT; 0 where it has no such ARGUMENT, or there is no
     * such COUNTER). 0 if there is none such, or no such what."
     */
    private static void letterOf() {
        GuardForge x = check.with(POLICY.replace("(go 2 a)", "(go 2 (count d more 1) a)"));
        int[][] due = {{0, 0, 0, 0, 0, 0}, {1, LOW, 0, 0, 0, 0}, {1, 5, 0, 0, 0, 0}, {2, LOW, LOW, 0, 0, 0}, {2, LOW, LOW, 0, 0, 2},
            {3, LOW, LOW, LOW, 0, 0}, {4, 0, 0, 0, 0, 0}};
        for (int letter = 0; letter < due.length; letter++) {
            for (int what = 0; what <= 10; what++) {
                check.same("letterOf(" + letter + ", " + what + ")", x.letterOf(letter, what), what < 6 ? due[letter][what] : 0);
            }
        }
        check.same("the last", x.letterOf(17, 0), 15);
        check.same("none such", x.letterOf(18, 0), 0);
    }

    /**
     * "Of INSTRUCTION i of a FUNCTION of the PROGRAM (or what was FORGED): what 0: what it is, 0 .. 29, 1: what stands behind (0
     * without that), 2: how many are on the STACK ahead of it (NONE if it is never come to), 3: which of these are ROWS, as bits, the
     * lowest one bit 0 (0 likewise), 4: 1 if it is a HOST that is GUARDED, else 0, 5: 1 if it is a HOST that NEEDS a GUARD, else 0. 0 if
     * there is none such, or no such what."
     */
    private static void codeOf() {
        GuardForge x = forged();
        int[][] program = {{0, 3, 0, 0, 0, 0}, {26, 1, 1, 0, 0, 1}, {1, 0, 1, 0, 0, 0}, {26, 4, 0, 0, 0, 0}, {1, 0, 1, 0, 0, 0},
            {0, 6, 0, 0, 0, 0}, {0, 7, 1, 0, 0, 0}, {26, 2, 2, 0, 0, 1}, {25, 1, 1, 0, 0, 0}, {0, 1, 1, 0, 0, 0}, {6, 0, 2, 0, 0, 0},
            {27, 0, 1, 0, 0, 0}, {0, 0, 0, 0, 0, 0}};
        int[][] forged = {{0, 3, 0, 0, 0, 0}, {29, 1, 1, 0, 0, 0}, {26, 1, 1, 0, 1, 1}, {1, 0, 1, 0, 0, 0}, {26, 4, 0, 0, 0, 0},
            {1, 0, 1, 0, 0, 0}, {0, 6, 0, 0, 0, 0}, {0, 7, 1, 0, 0, 0}, {29, 2, 2, 0, 0, 0}, {26, 2, 2, 0, 1, 1}, {25, 1, 1, 0, 0, 0},
            {0, 1, 1, 0, 0, 0}, {6, 0, 2, 0, 0, 0}, {27, 0, 1, 0, 0, 0}, {0, 0, 0, 0, 0, 0}};
        int[][] called = {{4, 0, 0, 0, 0, 0}, {21, 0, 1, 0, 0, 0}, {5, 1, 1, 1, 0, 0}, {4, 1, 0, 0, 0, 0}, {24, 0, 1, 1, 0, 0},
            {27, 0, 1, 0, 0, 0}, {0, 0, 0, 0, 0, 0}};
        code(x, false, 0, program);
        code(x, true, 0, forged);
        code(x, false, 1, called);
        code(x, true, 1, called);
        check.same("what 6", x.codeOf(false, 0, 1, 6), 0);
        check.same("load", Check.program(x, Build.program(Build.function(0, 2, 2, 0, "load 0, load 1, load 0, load 1, return, pop"))), 0);
        check.same("four", x.codeOf(false, 0, 4, 2), 4);
        check.same("the second and the fourth are rows", x.codeOf(false, 0, 4, 3), 2 + 8);
        check.same("never come to", x.codeOf(false, 0, 5, 2), -1);
        check.same("never come to", x.codeOf(false, 0, 5, 3), 0);
    }

    private static void code(GuardForge x, boolean of, int function, int[][] due) {
        for (int i = 0; i < due.length; i++) {
            for (int what = 0; what < 6; what++) {
                check.same("codeOf(" + of + ", " + function + ", " + i + ", " + what + ")", x.codeOf(of, function, i, what), due[i][what]);
            }
        }
    }

    /** "MAY of that INSTRUCTION: bit p for STATE p; 0 if there is none such." */
    private static void mayOf() {
        GuardForge x = forged();
        long[] program = {1, 1, 2, 2, 2, 2, 2, 2, 1, 1, 1, 1, 0};
        long[] forged = {1, 1, 2, 2, 2, 2, 2, 2, 2, 1, 1, 1, 1, 1, 0};
        for (int i = 0; i < program.length; i++) {
            check.same("mayOf(false, 0, " + i + ")", x.mayOf(false, 0, i), program[i]);
        }
        for (int i = 0; i < forged.length; i++) {
            check.same("mayOf(true, 0, " + i + ")", x.mayOf(true, 0, i), forged[i]);
        }
        for (int i = 0; i <= 6; i++) {
            check.same("mayOf(false, 1, " + i + ")", x.mayOf(false, 1, i), i < 6 ? 1 : 0);
            check.same("mayOf(true, 1, " + i + ")", x.mayOf(true, 1, i), i < 6 ? 1 : 0);
            check.same("mayOf(true, 2, " + i + ")", x.mayOf(true, 2, i), 0);
        }
    }

    /**
     * "Of a FUNCTION of the PROGRAM (or what was FORGED): what 0: PARAMS, 1: LOCALS, 2: RESULT, 3: INSTRUCTIONS, 4: HANDLERS. NONE if
     * there is none such."
     */
    private static void functionOf() {
        GuardForge x = forged();
        int[][] due = {{0, 0, 1, 12, 0, -1}, {1, 2, 1, 6, 1, -1}, {-1, -1, -1, -1, -1, -1}};
        for (int f = 0; f < 3; f++) {
            for (int what = 0; what < 6; what++) {
                int more = f == 0 && what == 3 ? 2 : 0;
                check.same("functionOf(false, " + f + ", " + what + ")", x.functionOf(false, f, what), due[f][what]);
                check.same("functionOf(true, " + f + ", " + what + ")", x.functionOf(true, f, what), due[f][what] + more);
            }
        }
        check.same("no program", new GuardForge().functionOf(false, 0, 0), -1);
    }

    /** "Byte k of the WRITTEN bytes (into false) or BYTES; NONE if there is none." */
    private static void byteOf() {
        GuardForge x = check.with(Build.program(Build.function(0, 0, 0, 0, "return")));
        x.saveProgram(false);
        x.cutBytes(0);
        x.giveBytes(0xFE80, 2);
        check.same("the first of the BYTES", x.byteOf(0, true), 254);
        check.same("the last of the BYTES", x.byteOf(1, true), 128);
        check.same("none of the BYTES", x.byteOf(2, true), -1);
        check.same("ahead of the BYTES", x.byteOf(-1, true), -1);
        check.same("the first of the WRITTEN", x.byteOf(0, false), 71);
        check.same("the last but one of the WRITTEN", x.byteOf(11, false), 27);
        check.same("none of the WRITTEN", x.byteOf(13, false), -1);
        check.same("ahead of the WRITTEN", x.byteOf(-1, false), -1);
    }

    /**
     * "which 0: COUNTERS, 1: NODES, 2: LETTERS, 3: SETS, 4: STATES of the POLICY; 5: FUNCTIONS, 6: INSTRUCTIONS of the PROGRAM, 7: of
     * what was FORGED (5 to 7: NONE if there is none such); 8: ANSWERS; 9: BYTES; 10: WRITTEN ones; 11: the fault of the latest
     * loadPolicy() or loadProgram() (0 without one), 12: its place (NONE without one); 13: the STATE of THE WATCH that is stepped by
     * watchCall(). NONE for any other which."
     */
    private static void lookAt() {
        // Three NODES, of which c is never there; b and d are two SETS, and ALIKE.
        GuardForge x = check.with("(counter u 1)(node a (go 1 (arg 0 same 5) b) (go 2 d))(node b (go 4 a))(node c)(node d (go 4 a))", PROGRAM);
        int[] before = {1, 4, 18, 3, 2, 2, 18, -1, 0, PROGRAM.length, 0, 0, -1, 0, -1};
        for (int which = 0; which < before.length; which++) {
            check.same("lookAt(" + which + ")", x.lookAt(which), before[which]);
        }
        check.same("forge", x.forgeIt(), 3);
        give(x, 1, 2);
        check.same("save", x.saveProgram(true), PROGRAM.length + 6);
        check.same("watch", x.watchCall(2, 0, 0, 0), 1);
        check.same("a fault", Check.policy(x, "(node a (go b))"), 2);
        int[] behind = {1, 4, 18, 3, 2, 2, 18, 21, 2, 15, PROGRAM.length + 6, 2, 12, 1, -1};
        for (int which = 0; which < behind.length; which++) {
            check.same("lookAt(" + which + ") behind", x.lookAt(which), behind[which]);
        }
    }
}
