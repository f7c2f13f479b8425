import java.util.Arrays;
import java.util.List;

/**
 * Sentences of "What it is" and "Terms" that name no boundary case, in their order, one method each, the sentence ahead
 * of it. Those that name one are in the tests whose names end in EdgesTest.
 */
public final class TermsTest {
    private static final Check check = new Check("TermsTest");
    private static final int LOW = Integer.MIN_VALUE;
    private static final int HIGH = Integer.MAX_VALUE;

    /** States a 0, b 1, c 2: call 0 leads from a to b, from b to c; call 4 stays everywhere; call 8 goes from c to c alone. */
    private static final String ROW = "(node a (go 0 b) (go 4 a))(node b (go 0 c) (go 4 b))(node c (go 4 c) (go 8 c))";

    public static void main(String[] args) {
        onlyAsThePolicyAllows();
        notElsewhere();
        whoeverMadeThem();
        answersThatAreGiven();
        callsOutside();
        tokensThatCanNotBeThere();
        bytesOfNoToken();
        allGuardsAreTrue();
        tracesThatObey();
        lettersOfACall();
        setsThatLettersLeadTo();
        statesGoByLetters();
        bytesOfAProgram();
        instructions();
        throwing();
        lookedAtWhereTheyStand();
        comeToWithWhatIsThere();
        entryIsMayOfTheFirst();
        afterIsMay();
        allOfWhatIsCalled();
        guardsThatAreForged();
        instructionByInstruction();
        divisionByZero();
        check.end();
    }

    private static byte[] plain(String words, byte[]... handlers) {
        return Build.program(Build.function(0, 2, 2, 0, words, handlers));
    }

    /** "Programs that call outside only as a policy allows": whatever the answers are, what is forged does no call that is not allowed */
    private static void onlyAsThePolicyAllows() {
        // Call 1 alternates with call 2, and the argument of 1 has to be less than 3.
        GuardForge x = check.with("(node a (go 1 (arg 0 less 3) b))(node b (go 2 a))",
                Build.program(Build.function(0, 0, 0, 0, "host 0, pop, return")));
        check.same("load", Check.program(x, Build.program(Build.function(0, 1, 0, 0,
                "push 0, store 0, load 0, host 1, store 0, load 0, load 0, host 2, store 0, jump 2"))), 0);
        check.same("forge", x.forgeIt(), 2);
        for (int bad = 0; bad < 4; bad++) {
            x.dropAnswers();
            for (int n = 0; n < 8; n++) {
                // The answer of call 2 is the next argument of call 1.
                x.addAnswer(n == 2 * bad + 1 ? 3 : n % 3);
            }
            check.same("stopped", x.runIt(true, 1000), 2);
            check.same("calls ahead of it", x.endOf(3), 2 * bad + 2);
            for (int i = 0; i < x.endOf(3); i++) {
                check.same("number of " + i, x.traceAt(i, 0), i % 2 + 1);
                check.same("allowed " + i, i % 2 == 1 || x.traceAt(i, 1) < 3, true);
            }
            check.same("the program itself goes on", x.runIt(false, 1000), 3);
        }
    }

    /** "guards put where they have to be, and not elsewhere" */
    private static void notElsewhere() {
        GuardForge x = check.with(ROW, plain("host 4, host 0, host 4, host 0, host 4, host 8, host 0, return"));
        int[] needs = {0, 1, 0, 1, 0, 0, 1};
        for (int i = 0; i < needs.length; i++) {
            check.same("needs " + i, x.codeOf(false, 0, i, 5), needs[i]);
        }
        check.same("forge", x.forgeIt(), 3);
        int[] due = {26, 29, 26, 26, 29, 26, 26, 26, 29, 26, 27, 0};
        for (int i = 0; i < due.length; i++) {
            check.same("forged " + i, x.codeOf(true, 0, i, 0), due[i]);
        }
        check.same("certified", x.certifyIt(true), 0);
    }

    /** "programs certified, whoever made them": by hand, too, with guards that are not needed, and not if one is missing */
    private static void whoeverMadeThem() {
        String[] right = {"return", "host 4, return", "guard 0, host 0, host 4, guard 0, host 0, return",
            "guard 4, host 4, guard 0, host 0, return", "jump 1, guard 0, host 0, return"};
        for (String words : right) {
            check.same(words, check.with(ROW, plain(words)).certifyIt(false), 0);
        }
        String[] wrong = {"host 0, return", "guard 0, return", "guard 0, host 0, host 0, return", "guard 0, guard 0, host 0, return",
            "guard 0, host 0, if 1, return", "host 8, return"};
        int[] places = {0, 0, 2, 0, 0, 0};
        for (int n = 0; n < wrong.length; n++) {
            check.same(wrong[n], check.with(ROW, plain(wrong[n])).certifyIt(false), 1 + places[n]);
        }
    }

    /** "runs over answers that are given": the same answers, the same run */
    private static void answersThatAreGiven() {
        GuardForge x = check.with(Build.main("host 0, host 0, sub, host 0, mul, return"));
        int[][] answers = {{9, 4, 3, 15}, {4, 9, 3, -15}, {9, 4, 0, 0}, {9, 4, 3, 15}};
        for (int[] row : answers) {
            x.dropAnswers();
            for (int n = 0; n < 3; n++) {
                x.addAnswer(row[n]);
            }
            check.same("run", x.runIt(false, 99), 0);
            check.same("value", x.endOf(1), row[3]);
            check.same("again", x.runIt(false, 99), 0);
            check.same("the same value", x.endOf(1), row[3]);
        }
    }

    private static int outermost(int n) {
        return n % 2 == 0 ? LOW + n : HIGH - n;
    }

    /**
     * "A CALL OUTSIDE has a number, 0 .. 15; number c has c modulo 4 ARGUMENTS, 0 .. 2, ints, and an ANSWER, an int. A TRACE is a row
     * of them."
     */
    private static void callsOutside() {
        StringBuilder words = new StringBuilder();
        for (int c = 0; c < 16; c++) {
            for (int i = 0; i < c % 4; i++) {
                words.append("push ").append(outermost(5 * c + i)).append(", ");
            }
            words.append("host ").append(c).append(", pop, ");
        }
        GuardForge x = check.with(plain(words + "return"));
        for (int c = 0; c < 16; c++) {
            x.addAnswer(outermost(3 * c));
        }
        check.same("run", x.runIt(false, 1000), 0);
        check.same("sixteen", x.endOf(3), 16);
        for (int c = 0; c < 16; c++) {
            check.same("number " + c, x.traceAt(c, 0), c);
            for (int i = 0; i < 3; i++) {
                check.same("argument " + i + " of " + c, x.traceAt(c, 1 + i), i < c % 4 ? outermost(5 * c + i) : 0);
            }
            check.same("answer of " + c, x.traceAt(c, 4), outermost(3 * c));
        }
    }

    /** TOKENS that stand one behind the other, and what can be there instead of each: kinds as in fits(). */
    private static final String[] TEXT = {
        "( (", "counter counter|node", "c NAME", "3 1..15", "( (|)", "up up|zero", "3 0..15|any", "( (|)", "arg arg|count|not",
        "0 0..2", "less less|same|more", "-5 NUMBER", ") )", "( (|)", "not arg|count|not", "( (", "count arg|count|not", "c NAME",
        "same less|same|more", "2 NUMBER", ") )", ") )", ") (|)", "( (|)", "zero up|zero", "any 0..15|any", ") (|)", ") (|)",
        "( (", "node counter|node", "a NAME", "( (|)", "go go", "any 0..15|any", "( (|NAME", "arg arg|count|not", "2 0..2",
        "more less|same|more", "7 NUMBER", ") )", "a (|NAME", ") )", "( (|)", "go go", "15 0..15|any", "a (|NAME", ") )", ") (|)",
        "( (", "node node", "b NEW", ") (|)"};
    private static final List<String> WORDS = Arrays.asList("counter", "node", "up", "zero", "go", "arg", "count", "not", "any", "less",
            "same", "more");

    private static boolean isNumber(String token) {
        return Character.isDigit(token.charAt(token.length() - 1));
    }

    private static boolean fits(String kinds, String token) {
        boolean isName = Character.isLetter(token.charAt(0)) && !WORDS.contains(token);
        for (String kind : kinds.split("\\|")) {
            boolean fit = kind.equals(token) || kind.equals("NAME") && isName || kind.equals("NUMBER") && isNumber(token);
            fit |= kind.equals("NEW") && isName && !token.equals("a");
            if (kind.contains("..") && isNumber(token)) {
                int least = Integer.parseInt(kind.substring(0, kind.indexOf('.')));
                int most = Integer.parseInt(kind.substring(kind.lastIndexOf('.') + 1));
                fit |= Integer.parseInt(token) >= least && Integer.parseInt(token) <= most;
            }
            if (fit) {
                return true;
            }
        }
        return false;
    }

    /** The text with another TOKEN at a place; what is ahead of that comes back as how many bytes there are. */
    private static String textWith(int place, String token, int[] ahead) {
        StringBuilder text = new StringBuilder();
        for (int k = 0; k < TEXT.length; k++) {
            if (k == place) {
                ahead[0] = text.length();
            }
            text.append(k == place ? token : TEXT[k].substring(0, TEXT[k].indexOf(' '))).append(k % 7 == 3 ? "\n" : " ");
        }
        return text.toString();
    }

    /**
     * "A TOKEN is ( or ), a NAME .., or a NUMBER", "(counter X m RULE ..)", "(up C G ..), (zero C G ..)", "(node N WAY ..)", "(go C G .. N)",
     * "(arg i OP k)", "(count X OP k)", "OP is less, same or more, k a NUMBER", and "2: a TOKEN that can not be there: another one has
     * to be, a word that is none, a NUMBER that can not be one, a NAME that can not be one, or is a second time"
     */
    private static void tokensThatCanNotBeThere() {
        String[] others = {"(", ")", "a", "c", "zz", "counters", "0", "1", "2", "3", "-0", "15", "16", "-1", "2147483647", "-2147483648"};
        int[] ahead = new int[1];
        check.rightText(textWith(-1, "", ahead));
        for (int place = 0; place < TEXT.length; place++) {
            String kinds = TEXT[place].substring(TEXT[place].indexOf(' ') + 1);
            for (int n = 0; n < others.length + WORDS.size(); n++) {
                String token = n < others.length ? others[n] : WORDS.get(n - others.length);
                String text = textWith(place, token, ahead);
                if (!fits(kinds, token)) {
                    check.wrongText(text, 2, ahead[0]);
                    continue;
                }
                // What can be there may be wrong later, but it is not there that it is.
                GuardForge x = new GuardForge();
                int fault = Check.policy(x, text);
                check.same(token + " can be at " + ahead[0] + " of " + text, fault <= 4 && fault > 0 && x.lookAt(12) <= ahead[0], false);
            }
        }
    }

    /**
     * "1: a byte that belongs to no TOKEN, or a NAME of more than 12 letters, or a NUMBER that is none (its first byte; of letters,
     * digits and - one behind the other the first one)", wherever it stands
     */
    private static void bytesOfNoToken() {
        String[] none = {"A", "#", "\t", "\u00e9", "abcdefghijklm", "a1", "1a", "-", "a-b", "--1", "1-", "2147483648", "-2147483649", "[", "+1"};
        int[] ahead = new int[1];
        for (int place = 0; place < TEXT.length; place += 3) {
            for (String token : none) {
                check.wrongText(textWith(place, token, ahead), 1, ahead[0]);
            }
        }
    }

    /** "whose C is c, or any, and whose G are all true", of WAYS and of RULES: each of four has to be */
    private static void allGuardsAreTrue() {
        String four = "(arg 0 same 1)(arg 1 same 2)(arg 2 same 3)(count d same 0)";
        GuardForge x = check.with("(counter c 9 (up 3 " + four + "))(counter d 9 (up 0))(node a (go 0 a) (go 3 a) (go 7 " + four + " a))");
        for (int wrong = 0; wrong < 16; wrong++) {
            x.resetWatch();
            if ((wrong & 8) != 0) {
                x.watchCall(0, 0, 0, 0);
            }
            int a = (wrong & 1) == 0 ? 1 : 9;
            int b = (wrong & 2) == 0 ? 2 : 9;
            int c = (wrong & 4) == 0 ? 3 : 9;
            check.same("the way, wrong are " + wrong, x.watchCall(7, a, b, c), wrong == 0 ? 0 : -1);
            check.same("call 3 goes", x.watchCall(3, a, b, c), 0);
            check.same("the rule, wrong are " + wrong, x.counterOf(0, true), wrong == 0 ? 1 : 0);
        }
    }

    /** "A TRACE OBEYS if there are NODES behind each CALL OUTSIDE of it." */
    private static void tracesThatObey() {
        String text = "(node a (go 0 b))(node b (go 4 a) (go 4 c))(node c (go 8 c))";
        int[] calls = {0, 4, 8};
        GuardForge x = new GuardForge();
        for (int trace = 0; trace < 364; trace++) {
            // One object does no more than some 60 traces, for its 512 calls.
            if (trace % 60 == 0) {
                x = check.with(text);
            }
            x.resetWatch();
            StringBuilder numbers = new StringBuilder();
            boolean goesOn = true;
            // Rows of 0 to 5 calls: the digits of trace to the base 3, where 1 to 3 are digits.
            for (int left = trace; left > 0; left = (left - 1) / 3) {
                int call = calls[(left - 1) % 3];
                numbers.append(call);
                goesOn = x.watchCall(call, 0, 0, 0) != -1 && goesOn;
                boolean obeys = numbers.toString().matches("(04)*0?|(04)+8+");
                check.same("trace " + numbers, goesOn, obeys);
                if (!obeys) {
                    break;
                }
            }
        }
    }

    /** "A LETTER of c is an INTERVAL of each of its ARGUMENTS and of each COUNTER. LETTERS are numbered from 0 on" */
    private static void lettersOfACall() {
        String text = "(counter c 3)(counter d 2)(node a (go any (arg 0 less 1)(arg 1 same 1)(arg 2 more 1)(count c less 2) a) "
                + "(go any (count d same 1) a))";
        int[][] starts = {{LOW, 1}, {LOW, 1, 2}, {LOW, 2}, {0, 2}, {0, 1, 2}};
        int letter = 0;
        for (int c = 0; c < 16; c++) {
            GuardForge x = check.with(text);
            int count = 6;
            for (int i = 0; i < c % 4; i++) {
                count *= starts[i].length;
            }
            for (int n = 0; n < count; n++) {
                int rest = n;
                check.same("call of " + letter, x.letterOf(letter, 0), c);
                for (int s = 4; s >= 0; s--) {
                    boolean there = s >= 3 || s < c % 4;
                    check.same("letterOf(" + letter + ", " + (s + 1) + ")", x.letterOf(letter, s + 1),
                            there ? starts[s][rest % starts[s].length] : 0);
                    rest = there ? rest / starts[s].length : rest;
                }
                letter++;
            }
        }
        check.same("all letters", check.with(text).lookAt(2), letter);
    }

    /** "SETS are START alone, and all sets of NODES (not empty) that a LETTER leads to from a SET." */
    private static void setsThatLettersLeadTo() {
        String text = "(node a (go 0 a) (go 0 b))(node b (go 4 c))(node c)";
        check.same("a, ab and c", check.with(text).lookAt(3), 3);
        check.same("what no letter leads to is none", check.with(text + "(node d (go 0 d))").lookAt(3), 3);
        check.same("from each set", check.with(text.replace("(node c)", "(node c (go 0 b) (go 4 c))")).lookAt(3), 4);
        check.same("by each letter", check.with("(node a (go 1 (arg 0 less 0) b) (go 1 (arg 0 more 0) c) (go 1 (arg 0 less 9) d))"
                + "(node b)(node c)(node d)").lookAt(3), 1 + 4);
    }

    /** "A STATE is all SETS that are ALIKE; it goes by a LETTER to the STATE of what that leads to, or nowhere, if that is empty." */
    private static void statesGoByLetters() {
        String text = "(node a (go 1 (arg 0 less 0) b) (go 2 (arg 1 same 3) c))(node b (go any (arg 0 more 5) a) (go 0 c))"
                + "(node c (go 3 (arg 2 less 1) a))";
        int[][] paths = {{}, {1, -1, 0}, {2, 0, 3}};
        for (int p = 0; p < 3; p++) {
            GuardForge x = check.with(text);
            check.same("three states", x.lookAt(4), 3);
            int letters = x.lookAt(2);
            check.same("letters", letters, 35);
            for (int letter = 0; letter < letters; letter++) {
                // The way to p, then the letter's call with the least int of each of its intervals.
                x.resetWatch();
                if (p > 0) {
                    check.same("to " + p, x.watchCall(paths[p][0], paths[p][1], paths[p][2], 0), p);
                }
                int due = x.wayOf(p, letter);
                check.same("from " + p + " by " + letter, x.watchCall(x.letterOf(letter, 0), x.letterOf(letter, 1), x.letterOf(letter, 2),
                        x.letterOf(letter, 3)), due);
            }
        }
    }

    private static byte[] row(int... bytes) {
        byte[] row = new byte[bytes.length];
        for (int k = 0; k < row.length; k++) {
            row[k] = (byte) bytes[k];
        }
        return row;
    }

    /**
     * "71, 70, 1; how many FUNCTIONS, 1 .. 12; then these." to "Numbers of two and four bytes have the highest first.", as bytes that
     * are written out here
     */
    private static void bytesOfAProgram() {
        byte[] bytes = row(
                71, 70, 1, 2,
                // PARAMS, LOCALS, LOCAL 2 is a ROW, RESULT, five INSTRUCTIONS
                0, 3, 0, 4, 1, 0, 5,
                // PUSH -2, CALL 1, JUMP 3, HOST 1, RETURN
                0, 255, 255, 255, 254, 25, 1, 18, 0, 3, 26, 1, 27,
                // one HANDLER: FROM 1 TO 3, TARGET 4, for code 16909060
                1, 0, 1, 0, 3, 0, 4, 1, 1, 2, 3, 4,
                // the second FUNCTION: LOAD 0, THROW; one HANDLER: FROM 0 TO 1, TARGET 1, for any code
                1, 1, 0, 0, 1, 0, 2, 4, 0, 28, 1, 0, 0, 0, 1, 0, 1, 0);
        GuardForge x = check.with(bytes);
        int[][] functions = {{0, 3, 1, 5, 1}, {1, 1, 1, 2, 1}};
        int[][][] code = {{{0, -2}, {25, 1}, {18, 3}, {26, 1}, {27, 0}}, {{4, 0}, {28, 0}}};
        check.same("functions", x.lookAt(5), 2);
        for (int f = 0; f < 2; f++) {
            for (int what = 0; what < 5; what++) {
                check.same("functionOf(" + f + ", " + what + ")", x.functionOf(false, f, what), functions[f][what]);
            }
            for (int i = 0; i < code[f].length; i++) {
                check.same("instruction " + i + " of " + f, x.codeOf(false, f, i, 0), code[f][i][0]);
                check.same("behind " + i + " of " + f, x.codeOf(false, f, i, 1), code[f][i][1]);
            }
        }
        check.same("-2 is thrown, the handler is for another code", x.runIt(false, 99), 1);
        check.same("code", x.endOf(1), -2);
        check.same("save", x.saveProgram(false), bytes.length);
        for (int k = 0; k < bytes.length; k++) {
            check.same("written " + k, x.byteOf(k, false), bytes[k] & 255);
        }
        // With 16909060 as what is pushed, the handler is for it.
        for (int k = 0; k < 4; k++) {
            bytes[12 + k] = (byte) (k + 1);
        }
        check.same("load", Check.program(x, bytes), 0);
        check.same("caught", x.runIt(false, 99), 0);
        check.same("the code is the value", x.endOf(1), 0x01020304);
    }

    /** What a FUNCTION with an INT as RESULT comes to; LOCAL 0 is an INT, 1 a ROW; FUNCTION 1 takes a and b and has a - b. */
    private static void comesTo(String name, int how, int value, int instructions, int... code) {
        byte[] head = row(71, 70, 1, 2, 0, 2, 0, 2, 1, 0, instructions);
        byte[] called = row(0, 2, 2, 0, 0, 1, 0, 4, 4, 0, 4, 1, 7, 27, 0);
        GuardForge x = check.with(Build.join(head, row(code), called));
        x.addAnswer(50);
        check.same(name + ": how it ends", x.runIt(false, 99), how);
        check.same(name + ": value", x.endOf(1), value);
    }

    /**
     * "0 PUSH k (four bytes): puts k. 1 POP takes one. 2 DUP puts the top once more. 3 SWAP changes the upper two over. 4 LOAD l (a
     * byte): puts LOCAL l. 5 STORE l: takes it into LOCAL l. 6 ADD, 7 SUB, 8 MUL (modulo 2^32), 9 DIV, rounded towards 0 (-2147483648
     * by -1 is -2147483648), 10 REM, what is left then, 11 AND, 12 OR, 13 XOR, 14 SHL, 15 SHR (with the sign; by the lowest five
     * bits), 16 LESS (1 or 0), 17 SAME: take b, then a, two INTS, and put a INT. 18 JUMP t (two bytes), to INSTRUCTION t; 19 IF t:
     * takes an INT, and goes there if it is not 0; 20 IFNOT t: if it is 0. 21 NEW: takes an INT n, puts a new ROW of n INTS, all 0. 22
     * GET: takes an INT i, then a ROW, puts what is there at i, from 0 on. 23 PUT: takes an INT v, an INT i, then a ROW: that has v at
     * i. 24 SIZE: takes a ROW, puts how many INTS it has. 25 CALL f (a byte): takes PARAMS (the last one first), puts RESULT, if there
     * is one. 26 HOST c (a byte, 0 .. 15): takes the ARGUMENTS (the last one first): this CALL OUTSIDE; puts its ANSWER. 27 RETURN:
     * takes RESULT, if there is one; what is below that is gone.": as bytes, none of them by the name that Build has for it
     */
    private static void instructions() {
        comesTo("PUSH, RETURN", 0, 0x01020304, 2, 0, 1, 2, 3, 4, 27);
        comesTo("POP", 0, 7, 4, 0, 0, 0, 0, 7, 0, 0, 0, 0, 8, 1, 27);
        comesTo("DUP, ADD", 0, 14, 4, 0, 0, 0, 0, 7, 2, 6, 27);
        comesTo("SWAP, SUB", 0, -5, 5, 0, 0, 0, 0, 7, 0, 0, 0, 0, 2, 3, 7, 27);
        comesTo("STORE, LOAD", 0, 7, 5, 0, 0, 0, 0, 7, 5, 0, 4, 0, 2, 27);
        int[] due = {-5, -9, -14, -3, -1, 0, -5, -5, -28, -2, 1, 0};
        for (int op = 6; op <= 17; op++) {
            comesTo("-7 and 2 by " + op, 0, due[op - 6], 4, 0, 255, 255, 255, 249, 0, 0, 0, 0, 2, op, 27);
            // Those below stay, and of two that are the same the last is 1.
            comesTo("2 and 2 by " + op, 0, new int[] {4, 0, 4, 1, 0, 2, 2, 0, 8, 0, 0, 1}[op - 6], 5, 0, 0, 0, 0, 9, 0, 0, 0, 0, 2, 2, op, 27);
        }
        comesTo("JUMP", 0, 8, 4, 18, 0, 2, 28, 0, 0, 0, 0, 8, 27);
        comesTo("IF of 1", 0, 8, 6, 0, 0, 0, 0, 1, 19, 0, 4, 0, 0, 0, 0, 7, 27, 0, 0, 0, 0, 8, 27);
        comesTo("IF of 0", 0, 7, 6, 0, 0, 0, 0, 0, 19, 0, 4, 0, 0, 0, 0, 7, 27, 0, 0, 0, 0, 8, 27);
        comesTo("IFNOT of 1", 0, 7, 6, 0, 0, 0, 0, 1, 20, 0, 4, 0, 0, 0, 0, 7, 27, 0, 0, 0, 0, 8, 27);
        comesTo("IFNOT of 0", 0, 8, 6, 0, 0, 0, 0, 0, 20, 0, 4, 0, 0, 0, 0, 7, 27, 0, 0, 0, 0, 8, 27);
        comesTo("NEW, SIZE", 0, 7, 4, 0, 0, 0, 0, 7, 21, 24, 27);
        comesTo("GET of 0 INTS", 1, 2, 4, 4, 1, 0, 0, 0, 0, 0, 22, 27);
        for (int i = 0; i < 3; i++) {
            // A row of 3 with 9 at 1.
            comesTo("PUT, GET " + i, 0, i == 1 ? 9 : 0, 11, 0, 0, 0, 0, 3, 21, 5, 1, 4, 1, 0, 0, 0, 0, 1, 0, 0, 0, 0, 9, 23, 4, 1,
                    0, 0, 0, 0, i, 22, 27);
        }
        comesTo("CALL", 0, 5, 5, 0, 0, 0, 0, 9, 0, 0, 0, 0, 8, 0, 0, 0, 0, 3, 25, 1, 27);
        comesTo("HOST", 0, 59, 6, 0, 0, 0, 0, 9, 0, 0, 0, 0, 8, 0, 0, 0, 0, 3, 26, 6, 6, 27);
        comesTo("RETURN with some below", 0, 3, 4, 0, 0, 0, 0, 9, 0, 0, 0, 0, 8, 0, 0, 0, 0, 3, 27);
        comesTo("GUARD leaves them", 0, 5, 5, 0, 0, 0, 0, 8, 0, 0, 0, 0, 3, 29, 2, 7, 27);
    }

    /** "28 THROW: takes an INT: a code.", "any by THROW", "the RUN ENDS 1, with the code as its value" */
    private static void throwing() {
        comesTo("THROW", 1, -2, 2, 0, 255, 255, 255, 254, 28);
        comesTo("THROW takes the top", 1, 8, 3, 0, 0, 0, 0, 7, 0, 0, 0, 0, 8, 28);
    }

    private static void fault(String name, byte[] bytes, int fault, int place) {
        check.programFault(new GuardForge(), name, bytes, fault, place);
    }

    /**
     * "3: a number that can not be there: an INSTRUCTION, LOCAL, FUNCTION, CALL OUTSIDE, TARGET (the place of its first byte; t and f
     * are looked at where they stand: f below the number of FUNCTIONS, t below that of INSTRUCTIONS)": though the bytes end behind it
     */
    private static void lookedAtWhereTheyStand() {
        byte[] one = row(71, 70, 1, 1, 0, 1, 0, 0, 0, 0, 2);
        byte[] two = row(71, 70, 1, 2, 0, 1, 0, 0, 0, 0, 2);
        fault("an INSTRUCTION", Build.join(one, row(30)), 3, 11);
        fault("a LOCAL", Build.join(one, row(4, 1)), 3, 12);
        fault("a LOCAL that is stored", Build.join(one, row(5, 1)), 3, 12);
        fault("a FUNCTION", Build.join(one, row(25, 1)), 3, 12);
        fault("a CALL OUTSIDE", Build.join(one, row(26, 16)), 3, 12);
        fault("a CALL OUTSIDE that is guarded", Build.join(one, row(29, 16)), 3, 12);
        for (int jump = 18; jump <= 20; jump++) {
            fault("t of " + jump, Build.join(one, row(jump, 0, 2)), 3, 12);
            fault("t of " + jump + " in its first byte", Build.join(one, row(jump, 1, 0)), 3, 12);
            fault("t of " + jump + " that can be", Build.join(one, row(jump, 0, 1)), 1, 14);
        }
        fault("a TARGET", Build.join(one, row(27, 27, 1, 0, 0, 0, 1, 0, 2)), 3, 18);
        fault("f of a FUNCTION that is not read yet", Build.join(two, row(25, 1)), 1, 13);
        fault("f of none", Build.join(two, row(25, 2)), 3, 12);
    }

    private static void stack(GuardForge x, int[] depth, int[] rows) {
        for (int i = 0; i < depth.length; i++) {
            check.same("how many ahead of " + i, x.codeOf(false, 0, i, 2), depth[i]);
            check.same("rows ahead of " + i, x.codeOf(false, 0, i, 3), rows[i]);
        }
    }

    /**
     * "for each HANDLER in whose range it is (FROM to before TO), in their order, TARGET is come to with one INT; then each that is next
     * is come to with what is there then: t, then the one behind (of JUMP t alone, of RETURN and THROW none)"
     */
    private static void comeToWithWhatIsThere() {
        for (String jump : new String[] {"if", "ifnot"}) {
            GuardForge x = check.with(plain("load 1, load 0, load 0, " + jump + " 6, pop, jump 7, pop, pop, return, pop"));
            stack(x, new int[] {0, 1, 2, 3, 2, 1, 2, 1, 0, -1}, new int[] {0, 1, 1, 1, 1, 1, 1, 1, 0, 0});
        }
        GuardForge x = check.with(plain("load 1, load 1, jump 4, pop, return, throw, return", Build.handler(2, 3, 5), Build.handler(0, 1, 6)));
        stack(x, new int[] {0, 1, 2, -1, 2, 1, 1}, new int[] {0, 1, 3, 0, 3, 0, 0});
    }

    private static void may(GuardForge x, int function, long... due) {
        for (int i = 0; i < due.length; i++) {
            check.same("mayOf(" + function + ", " + i + ")", x.mayOf(false, function, i), due[i]);
        }
    }

    /** "MAY of INSTRUCTION 0 has ENTRY of its FUNCTION.", and what else comes to it */
    private static void entryIsMayOfTheFirst() {
        GuardForge x = check.with(ROW, Build.program(Build.function(0, 0, 0, 0, "host 0, pop, call 1, return"),
                Build.function(0, 0, 0, 0, "host 0, pop, jump 0")));
        may(x, 0, 1, 2, 2, 0);
        may(x, 1, 6, 4, 4);
    }

    /** "AFTER an INSTRUCTION is what its MAY is", "MAY of each one that is next has AFTER." */
    private static void afterIsMay() {
        String[] takes = {"", "i", "i", "ii", "", "i", "ii", "ii", "ii", "ii", "ii", "ii", "ii", "ii", "ii", "ii", "ii", "ii", "", "i", "i",
            "i", "ri", "rii", "r", "", "", "", "i", ""};
        for (int op = 0; op < 30; op++) {
            int at = 2 + takes[op].length();
            boolean jumps = op >= 18 && op <= 20;
            String operand = jumps ? " " + (at + 2) : op == 25 ? " 1" : op == 26 || op == 29 ? " 4" : Build.width(op) > 0 ? " 0" : "";
            String words = "host 0, pop, " + takes[op].replace("i", "load 0, ").replace("r", "load 1, ") + Build.NAMES.get(op) + operand
                    + ", return, return";
            GuardForge x = check.with(ROW, Build.program(Build.function(0, 2, 2, 0, words), Build.function(0, 0, 0, 0, "return")));
            boolean behind = op != 18 && op != 27 && op != 28;
            check.same(words + ": itself", x.mayOf(false, 0, at), 2);
            check.same(words + ": the one behind", x.mayOf(false, 0, at + 1), behind ? 2 : 0);
            check.same(words + ": the one behind that", x.mayOf(false, 0, at + 2), jumps ? 2 : 0);
        }
    }

    /** "and, if it is CALL f and its MAY has one, ALL of f" */
    private static void allOfWhatIsCalled() {
        byte[] goesRound = Build.function(0, 0, 0, 0, "host 0, pop, host 0, pop, jump 4");
        GuardForge x = check.with(ROW, Build.program(Build.function(0, 0, 0, 0, "call 1, return, return", Build.handler(0, 1, 2)), goesRound));
        may(x, 0, 1, 0, 7);
        may(x, 1, 1, 2, 2, 4, 4);
        // The second CALL has no STATE, since call 8 goes nowhere from a.
        x = check.with(ROW, Build.program(Build.function(0, 1, 0, 0, "load 0, if 4, call 1, return, host 8, pop, call 1, return, return",
                Build.handler(6, 7, 8)), goesRound));
        may(x, 0, 1, 1, 1, 0, 1, 0, 0, 0, 0);
        may(x, 1, 1, 2, 2, 4, 4);
    }

    /** "To FORGE a PROGRAM that has no GUARD: GUARD c comes ahead of each HOST c that NEEDS one" */
    private static void guardsThatAreForged() {
        StringBuilder words = new StringBuilder();
        for (int c = 0; c < 16; c++) {
            words.append(Build.times(c % 4, "load 0", "host " + c + ", pop, "));
        }
        for (int ruled = 0; ruled <= 16; ruled++) {
            String call = ruled == 16 ? "any" : "" + ruled;
            GuardForge x = check.with("(counter c 1 (up " + call + "))(node a (go any a))", plain(words + "return"));
            check.same("forge by a rule of " + call, x.forgeIt(), ruled == 16 ? 16 : 1);
            int size = x.lookAt(7);
            int guard = -1;
            for (int i = 0; i < size; i++) {
                int op = x.codeOf(true, 0, i, 0);
                int c = x.codeOf(true, 0, i, 1);
                if (op == 26) {
                    check.same("a guard of " + c + " ahead of it", guard, ruled == 16 || ruled == c ? c : -1);
                }
                guard = op == 29 ? c : -1;
            }
            check.same("certified", x.certifyIt(true), 0);
        }
    }

    /** "FUNCTION 0 is done, INSTRUCTION by INSTRUCTION.", and no other one that no CALL begins */
    private static void instructionByInstruction() {
        GuardForge x = check.with(Build.program(Build.function(0, 0, 0, 1, Build.times(10, "host 0", "return")),
                Build.function(0, 0, 0, 0, "host 4, return")));
        for (int n = 0; n <= 12; n++) {
            check.same("fuel " + n, x.runIt(false, n), n <= 10 ? 3 : 0);
            check.same("steps by " + n, x.endOf(2), Math.min(n, 11));
            check.same("calls by " + n, x.endOf(3), Math.min(n, 10));
            check.same("one function by " + n, x.endOf(7), 1);
            check.same("call 0 alone by " + n, x.traceAt(n - 1, 0), 0);
        }
    }

    /** "A code is THROWN: 1 by DIV and REM by 0" */
    private static void divisionByZero() {
        for (int a : new int[] {LOW, -1, 0, 1, HIGH}) {
            for (String word : new String[] {"div", "rem"}) {
                check.ends(a + " " + word + " 0", Build.main("push " + a + ", push 0, " + word + ", return"), 1, 1);
                check.ends(a + " " + word + " 0, caught", Build.main("push " + a + ", push 0, " + word + ", return, push 8, add, return",
                        Build.handler(2, 3, 4, 1)), 0, 9);
            }
        }
    }
}
