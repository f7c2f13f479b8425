import java.util.Arrays;
import java.util.TreeSet;

/**
 * Under "POLICIES", what G, TRACES, LETTERS, SETS and STATES are, and promises 16 to 20: each sentence that names a
 * boundary case, one method each, the sentence ahead of it.
 */
public final class StateEdgesTest {
    private static final Check check = new Check("StateEdgesTest");
    private static final int LOW = Integer.MIN_VALUE;
    private static final int HIGH = Integer.MAX_VALUE;
    private static final int[] EDGES = {LOW, LOW + 1, -2, -1, 0, 1, 2, HIGH - 1, HIGH};
    private static final String[] KINDS = {"less", "same", "more"};

    public static void main(String[] args) {
        argumentsAreCompared();
        argumentsThatThereAreNot();
        countersAreCompared();
        startAlone();
        whoseCallIsItOrAny();
        allNodes();
        firstRule();
        atMostAndZero();
        guardsThatCount();
        intervalsOfArguments();
        intervalsOfCounters();
        severalDivisions();
        whichInterval();
        orderOfLetters();
        mostLetters();
        farTooManyLetters();
        mostSets();
        setsAreNotEmpty();
        alike();
        numbersOfStates();
        usedBefore();
        check.end();
    }

    private static boolean isTrue(int kind, long value, long number) {
        return kind == 0 ? value < number : kind == 1 ? value == number : value > number;
    }

    /** "(arg i OP k) is true .. if .. that is less than k, the same, or more; .. (not G) if G is not" */
    private static void argumentsAreCompared() {
        for (int kind = 0; kind < 3; kind++) {
            for (int k : EDGES) {
                for (int i = 0; i < 3; i++) {
                    String guard = "(arg " + i + " " + KINDS[kind] + " " + k + ")";
                    GuardForge x = check.rightText("(node a (go 7 " + guard + " a))");
                    GuardForge y = check.rightText("(node a (go 7 (not " + guard + ") a))");
                    for (int v : EDGES) {
                        boolean due = isTrue(kind, v, k);
                        // The other arguments are on the other side, so that it matters which one is looked at.
                        int[] row = {k == 0 ? 1 : 0, k == 0 ? 1 : 0, k == 0 ? 1 : 0};
                        row[i] = v;
                        check.same(guard + " of " + v, x.watchCall(7, row[0], row[1], row[2]), due ? 0 : -1);
                        check.same("not " + guard + " of " + v, y.watchCall(7, row[0], row[1], row[2]), due ? -1 : 0);
                    }
                }
            }
        }
    }

    /** "if it has an ARGUMENT i", and promise 18: "(those that it has; others are not looked at)" */
    private static void argumentsThatThereAreNot() {
        for (int i = 0; i < 3; i++) {
            for (String kind : KINDS) {
                GuardForge x = check.rightText("(node a (go any (arg " + i + " " + kind + " 0) a))");
                GuardForge y = check.rightText("(node a (go any (not (arg " + i + " " + kind + " 0)) a))");
                int v = kind.equals("less") ? -1 : kind.equals("same") ? 0 : 1;
                for (int c = 0; c < 16; c++) {
                    boolean has = i < c % 4;
                    check.same("arg " + i + " of " + c, x.watchCall(c, v, v, v), has ? 0 : -1);
                    check.same("not arg " + i + " of " + c, y.watchCall(c, v, v, v), has ? -1 : 0);
                }
            }
        }
        // A rule with such a guard is not done.
        GuardForge x = check.rightText("(counter c 9 (up any (arg 2 same 5)))(node a (go any a))");
        for (int c = 0; c < 16; c++) {
            x.resetWatch();
            x.watchCall(c, 5, 5, 5);
            check.same("a rule of argument 2, call " + c, x.counterOf(0, true), c % 4 == 3 ? 1 : 0);
        }
    }

    /** "(count X OP k) likewise of COUNTER X" */
    private static void countersAreCompared() {
        int[] numbers = {LOW, -1, 0, 1, 2, 3, 4, HIGH};
        for (int kind = 0; kind < 3; kind++) {
            for (int k : numbers) {
                String guard = "(count d " + KINDS[kind] + " " + k + ")";
                GuardForge x = check.rightText("(counter c 3)(counter d 3 (up 0))(node a (go 0 a) (go 4 " + guard + " a) "
                        + "(go 8 (not " + guard + ") a))");
                for (int v = 0; v <= 3; v++) {
                    check.same("d", x.counterOf(1, true), v);
                    check.same(guard + " of " + v, x.watchCall(4, 0, 0, 0), isTrue(kind, v, k) ? 0 : -1);
                    check.same("not " + guard + " of " + v, x.watchCall(8, 0, 0, 0), isTrue(kind, v, k) ? -1 : 0);
                    x.watchCall(0, 0, 0, 0);
                }
            }
        }
    }

    /** "The first NODE is START." and "A TRACE begins with the NODE START alone, and COUNTERS that are 0." */
    private static void startAlone() {
        GuardForge x = check.rightText("(counter c 5 (up any))(node z (go 1 b))(node a (go 2 a))(node b (go 3 b))");
        check.same("c is 0", x.counterOf(0, true), 0);
        check.same("state 0", x.lookAt(13), 0);
        check.same("not from the second node", x.watchCall(2, 0, 0, 0), -1);
        check.same("not from the last node", x.watchCall(3, 0, 0, 0), -1);
        check.same("from the first", x.watchCall(1, 0, 0, 0), 1);
        check.same("c is 1", x.counterOf(0, true), 1);
        x.resetWatch();
        check.same("c is 0 again", x.counterOf(0, true), 0);
        check.same("state 0 again", x.lookAt(13), 0);
        check.same("from the first again", x.watchCall(1, 0, 0, 0), 1);
    }

    /** "whose C is c, or any", of WAYS and of RULES */
    private static void whoseCallIsItOrAny() {
        for (int c = 0; c < 16; c++) {
            GuardForge x = check.rightText("(counter c 1 (up " + c + "))(counter d 15 (up any))(node a (go " + c + " a))");
            GuardForge y = check.rightText("(counter c 1 (up " + c + "))(counter d 15 (up any))(node a (go any a))");
            for (int number = 0; number < 16; number++) {
                check.same("way of " + c + " by " + number, x.watchCall(number, 0, 0, 0), number == c ? 0 : -1);
                y.resetWatch();
                check.same("way of any by " + number, y.watchCall(number, 0, 0, 0), 0);
                check.same("rule of " + c + " by " + number, y.counterOf(0, true), number == c ? 1 : 0);
                check.same("rule of any by " + number, y.counterOf(1, true), 1);
            }
        }
    }

    /** "leads to all NODES that a WAY goes to from one of those that are there" */
    private static void allNodes() {
        GuardForge x = check.rightText("(node a (go 0 b) (go 0 c) (go 0 d))(node b (go 1 b))(node c (go 2 c))(node d (go 3 d))");
        for (int c = 1; c <= 3; c++) {
            x.resetWatch();
            check.same("all three", x.watchCall(0, 0, 0, 0), 1);
            check.same("and from there by " + c, x.watchCall(c, 0, 0, 0) > 0, true);
            check.same("but then not by another", x.watchCall(c % 3 + 1, 0, 0, 0), -1);
        }
        check.same("a is not there any more", x.watchCall(0, 0, 0, 0), -1);
    }

    /** "the first RULE whose C is c, or any, and whose G are all true (as COUNTERS are ahead of the call) is done" */
    private static void firstRule() {
        for (int first = 0; first < 4; first++) {
            StringBuilder rules = new StringBuilder();
            for (int n = 0; n < 4; n++) {
                rules.append(n < first ? "(zero 1 (arg 0 same 9))" : n == first ? "(up 1)" : "(zero 1)");
            }
            GuardForge x = check.rightText("(counter c 9 " + rules + ")(node a (go any a))");
            x.watchCall(1, 5, 0, 0);
            check.same("rule " + first, x.counterOf(0, true), 1);
            x.watchCall(1, 9, 0, 0);
            check.same("rule 0 instead of " + first, x.counterOf(0, true), first == 0 ? 2 : 0);
            x.watchCall(2, 9, 0, 0);
            check.same("no rule is for it, so it stays", x.counterOf(0, true), first == 0 ? 2 : 0);
        }
        // One whose last G is false is not the first.
        GuardForge x = check.rightText("(counter c 9 (zero 1 (arg 0 same 5)(arg 0 same 5)(arg 0 same 5)(arg 0 same 6)) (up 1))"
                + "(node a (go any a))");
        x.watchCall(1, 5, 0, 0);
        check.same("the last G is false", x.counterOf(0, true), 1);
        // c and d look at each other as they are ahead of the call, also at themselves.
        x = check.rightText("(counter c 9 (up 0 (count c same 0)) (zero 0))(counter d 9 (up 0 (count c same 0)) (zero 0))"
                + "(counter e 9 (up 0 (count f same 0)) (zero 0))(counter f 9 (up 0))(node a (go any a))");
        x.watchCall(0, 0, 0, 0);
        for (int k = 0; k < 4; k++) {
            check.same("counter " + k + " behind the first call", x.counterOf(k, true), 1);
        }
        x.watchCall(0, 0, 0, 0);
        int[] due = {0, 0, 0, 2};
        for (int k = 0; k < 4; k++) {
            check.same("counter " + k + " behind the second call", x.counterOf(k, true), due[k]);
        }
    }

    /** "up: it is 1 more, at most m; zero: it is 0" */
    private static void atMostAndZero() {
        GuardForge x = check.rightText("(counter c 1 (up 0) (zero 4))(counter d 15 (up 0) (zero 4))(node a (go any a))");
        check.same("zero of 0", x.watchCall(4, 0, 0, 0), 0);
        check.same("c is 0", x.counterOf(0, true), 0);
        for (int n = 1; n <= 17; n++) {
            x.watchCall(0, 0, 0, 0);
            check.same("c at most 1", x.counterOf(0, true), 1);
            check.same("d at most 15", x.counterOf(1, true), Math.min(15, n));
        }
        x.watchCall(4, 0, 0, 0);
        check.same("c is 0 again", x.counterOf(0, true), 0);
        check.same("d is 0 again", x.counterOf(1, true), 0);
    }

    /** "Of a CALL OUTSIDE c, GUARDS that count are those of WAYS whose C is c, or any (in (not G), too)." */
    private static void guardsThatCount() {
        for (int c = 0; c < 16; c++) {
            GuardForge x = check.rightText("(counter c 5)(node a (go " + c + " (not (not (count c less 3))) a))");
            check.same("one letter more, of " + c, x.lookAt(2), 17);
            check.same("ahead of it", x.letterOf(c, 0), c);
            check.same("it", x.letterOf(c + 1, 0), c);
            check.same("its counter", x.letterOf(c + 1, 4), 3);
        }
        check.same("of any, two each", check.rightText("(counter c 5)(node a (go any (not (count c less 3)) a))").lookAt(2), 32);
        // Of any, an ARGUMENT is divided where there is one: of 12, 8 and 4 calls.
        for (int i = 0; i < 3; i++) {
            check.same("argument " + i + " of any", check.rightText("(node a (go any (arg " + i + " less 3) a))").lookAt(2), 28 - 4 * i);
        }
        // Those of RULES do not count, those of NODES that are never there do.
        check.same("rules", check.rightText("(counter c 5 (up any (count c less 3)) (zero 1 (arg 0 same 3)))(node a (go any a))")
                .lookAt(2), 16);
        check.same("a node that is never there", check.rightText("(node a)(node b (go 1 (arg 0 same 3) b))").lookAt(2), 18);
    }

    /** The least ints of the letters of one call, which are all of one subject. */
    private static void starts(String name, GuardForge x, int first, int what, TreeSet<Integer> due) {
        check.same(name + ": letters", x.lookAt(2), 15 + due.size());
        int letter = first;
        for (int start : due) {
            check.same(name + ": letterOf(" + letter + ", " + what + ")", x.letterOf(letter, what), start);
            letter++;
        }
        check.same(name + ": the call behind", x.letterOf(letter, 0), first + 1);
    }

    /** The starts of intervals between two ends, by the document's words. */
    private static void divide(TreeSet<Integer> starts, int kind, long k, long lowest, long highest) {
        if (kind != 2 && k > lowest && k <= highest) {
            starts.add((int) k);
        }
        if (kind != 0 && k + 1 > lowest && k + 1 <= highest) {
            starts.add((int) (k + 1));
        }
    }

    /** "between k - 1 and k for each (arg i less k) and (arg i same k), between k and k + 1 for each (arg i same k) and (arg i more k)" */
    private static void intervalsOfArguments() {
        for (int kind = 0; kind < 3; kind++) {
            for (int k : EDGES) {
                TreeSet<Integer> due = new TreeSet<>(Arrays.asList(LOW));
                divide(due, kind, k, LOW, HIGH);
                for (int i = 0; i < 3; i++) {
                    String guard = "(arg " + i + " " + KINDS[kind] + " " + k + ")";
                    starts(guard, check.rightText("(node a (go 3 " + guard + " a))"), 3, 1 + i, due);
                    starts("not " + guard, check.rightText("(node a (go 3 (not " + guard + ") a))"), 3, 1 + i, due);
                }
            }
        }
    }

    /** "COUNTER X likewise, as an int 0 .. m; a division that leaves nothing on one side is none" */
    private static void intervalsOfCounters() {
        for (int m = 1; m <= 15; m++) {
            for (int kind = 0; kind < 3; kind++) {
                for (int k = -2; k <= m + 2; k++) {
                    counterInterval(m, kind, k);
                }
                counterInterval(m, kind, LOW);
                counterInterval(m, kind, HIGH);
            }
        }
    }

    private static void counterInterval(int m, int kind, int k) {
        TreeSet<Integer> due = new TreeSet<>(Arrays.asList(0));
        divide(due, kind, k, 0, m);
        String guard = "(count d " + KINDS[kind] + " " + k + ")";
        GuardForge x = check.rightText("(counter c 1)(counter d " + m + ")(node a (go 0 " + guard + " a))");
        starts(guard + " up to " + m, x, 0, 5, due);
    }

    /** "for each .. of these": the same division twice is one, and their order does not matter */
    private static void severalDivisions() {
        int[] numbers = {7, LOW, 3, HIGH, 5, 4, HIGH - 1, LOW + 1, 3, 7, -1, 0};
        for (int kind = 0; kind < 3; kind++) {
            TreeSet<Integer> due = new TreeSet<>(Arrays.asList(LOW));
            StringBuilder ways = new StringBuilder();
            for (int n = 0; n < numbers.length; n++) {
                divide(due, kind, numbers[n], LOW, HIGH);
                ways.append(n % 4 == 0 ? "(go 9" : "").append("(arg 0 ").append(KINDS[kind]).append(' ').append(numbers[n]);
                ways.append(n % 4 == 3 ? ") a)" : ")");
            }
            starts(KINDS[kind], check.rightText("(node a " + ways + ")"), 9, 1, due);
        }
    }

    /** "its LETTER is that in whose INTERVALS the ARGUMENTS and COUNTERS are": every interval, and both its ends */
    private static void whichInterval() {
        StringBuilder text = new StringBuilder("(node a");
        for (int k = 0; k < 8; k++) {
            text.append("(go 1 (arg 0 same ").append(2 * k).append(") n").append((char) ('a' + k)).append(")");
        }
        text.append(")");
        for (int k = 0; k < 8; k++) {
            text.append("(node n").append((char) ('a' + k)).append("(go ").append(4 + k).append(" a))");
        }
        GuardForge x = check.rightText(text.toString());
        check.same("17 intervals", x.lookAt(2), 15 + 17);
        check.same("9 states", x.lookAt(4), 9);
        for (int v = -2; v <= 17; v++) {
            x.resetWatch();
            boolean goes = v >= 0 && v <= 14 && v % 2 == 0;
            check.same("state behind " + v, x.watchCall(1, v, 0, 0), goes ? 1 + v / 2 : -1);
        }
        for (int v : new int[] {LOW, HIGH}) {
            x.resetWatch();
            check.same("state behind " + v, x.watchCall(1, v, 0, 0), -1);
        }
    }

    /** "those of 0, of 1, ..; of one c by the INTERVALS (the lowest first) of ARGUMENT 0, then of 1, then of 2, then of the COUNTERS" */
    private static void orderOfLetters() {
        String counters = Build.named(6, "(counter ", " 2)");
        // Two intervals of each argument and of each counter: 2^9 letters are too many, with one less 2^8.
        StringBuilder ways = new StringBuilder("(go 15 (arg 0 less 10)(arg 1 less 20)(arg 2 less 30) a)(go 15");
        for (int k = 0; k < 5; k++) {
            ways.append(k == 4 ? "a)(go 15" : "").append("(count ").append((char) ('b' + k)).append(" more 0)");
        }
        GuardForge x = check.rightText(counters + "(node a " + ways + "a))");
        check.same("letters", x.lookAt(2), 15 + 256);
        int[] upper = {10, 20, 30, 0, 1, 1, 1, 1, 1};
        int[] bit = {7, 6, 5, -1, 4, 3, 2, 1, 0};
        for (int n : new int[] {0, 1, 2, 3, 4, 8, 16, 31, 32, 64, 127, 128, 129, 254, 255}) {
            check.same("call of letter " + n, x.letterOf(15 + n, 0), 15);
            for (int s = 0; s < 9; s++) {
                boolean isUpper = bit[s] >= 0 && (n >> bit[s] & 1) == 1;
                int due = isUpper ? upper[s] : s < 3 ? LOW : 0;
                check.same("letterOf(15 + " + n + ", " + (s + 1) + ")", x.letterOf(15 + n, s + 1), due);
            }
        }
        for (int c = 0; c < 15; c++) {
            check.same("one letter of " + c, x.letterOf(c, 0), c);
        }
    }

    /** "7: more than 512 LETTERS" */
    private static void mostLetters() {
        GuardForge x = check.rightText(Policies.letters(512));
        check.same("512 letters", x.lookAt(2), 512);
        check.same("the last is of call 15", x.letterOf(511, 0), 15);
        check.same("none behind", x.letterOf(512, 0), 0);
        check.same("a way by the last", x.wayOf(0, 511), -1);
        String more = Policies.letters(513);
        check.policyFault(x, more, 7, more.length());
        check.same("512 letters stay", x.lookAt(2), 512);
        // 32 letters for each of 16 calls: two counters divided for any call.
        StringBuilder ways = new StringBuilder();
        for (int k = 1; k <= 15; k++) {
            ways.append(k % 4 == 1 ? "(go any" : "").append("(count c less ").append(k).append(k % 4 == 0 ? ") a)" : ")");
        }
        String any = "(counter c 15)(counter d 1)(node a " + ways + "(count d less 1) a)";
        x = check.rightText(any + ")");
        check.same("16 * 16 * 2", x.lookAt(2), 512);
        check.same("the last one's counter c", x.letterOf(511, 4), 15);
        check.same("the last one's counter d", x.letterOf(511, 5), 1);
        check.wrongText(any + "(go 1 (arg 0 less 1) a))", 7, any.length() + 24);
        // The last call alone is too much.
        check.wrongText(any + "(go 15 (arg 0 less 1) a))", 7, any.length() + 25);
        // What divides nothing does not count.
        check.rightText(any + "(go 1 (arg 0 less -2147483648) (count c less 16) a))");
        // All 512 are of use: the ways of nodes by the first letter, by one between and by the last.
        x = check.rightText("(counter c 15)(counter d 1)(node s (go 0 t))(node t (go 0 t) (go 4 s) (go 15 u))(node u (go 0 s))"
                + "(node a " + ways + "(count d less 1) a))");
        check.same("512 letters", x.lookAt(2), 512);
        check.same("three states", x.lookAt(4), 3);
        int[][] due = {{1, -1, -1}, {1, 0, 2}, {0, -1, -1}};
        int[] calls = {0, 4, 15};
        for (int p = 0; p < 3; p++) {
            for (int n = 0; n < 3; n++) {
                check.same("from " + p + " by the first of " + calls[n], x.wayOf(p, 32 * calls[n]), due[p][n]);
                check.same("from " + p + " by the last of " + calls[n], x.wayOf(p, 32 * calls[n] + 31), due[p][n]);
                check.same("from " + p + " by the one behind", x.wayOf(p, 32 * calls[n] + 32), -1);
            }
        }
    }

    /** "7: more than 512 LETTERS", by far: nearly as many as there can be in all calls, and then the last one alone has as many again */
    private static void farTooManyLetters() {
        // Those behind 200 take more than the 512 calls that are promised.
        for (int more : new int[] {5, 8, 9, 100, 190, 200, 236, 237, 260, 400, 430}) {
            StringBuilder text = new StringBuilder("(node a");
            int guards = 0;
            for (int k = 0; k < 20 + more; k++) {
                // Each divides twice: the first 20 all of 12 calls, the others call 15.
                if (guards % 32 == 0 && guards > 0) {
                    text.append(")(node ").append((char) ('a' + guards / 32));
                }
                text.append(guards % 4 > 0 ? "" : k < 20 ? "(go any" : "(go 15").append("(arg 0 same ").append(2 * k).append(')');
                guards++;
                text.append(guards % 4 == 0 || k == 19 + more ? "a)" : "");
            }
            text.append(')');
            boolean right = 4 + 12 * 41 + 2 * more <= 512;
            GuardForge x = new GuardForge();
            check.policyFault(x, text.toString(), right ? 0 : 7, right ? -1 : text.length());
            check.same("letters with " + more, x.lookAt(2), right ? 496 + 2 * more : 16);
        }
    }

    /** "8: more than 63 SETS" */
    private static void mostSets() {
        GuardForge x = check.rightText(Policies.sets(63));
        check.same("63 sets", x.lookAt(3), 63);
        check.same("63 states", x.lookAt(4), 63);
        check.same("no state 63", x.wayOf(63, 0), -1);
        check.same("letters: 24 intervals of call 1", x.lookAt(2), 15 + 24);
        int next = 1;
        for (int p = 0; p < 63; p++) {
            // One object for each state, so that none has more than 512 calls.
            GuardForge y = new GuardForge();
            Check.policy(y, Policies.sets(63));
            for (int letter = 0; letter < 39; letter++) {
                int to = y.wayOf(p, letter);
                check.same("state " + p + " goes on in order by " + letter, to >= -1 && to <= next, true);
                next += to == next ? 1 : 0;
            }
        }
        check.same("all 63 are gone to", next, 63);
        String more = Policies.sets(64);
        check.policyFault(x, more, 8, more.length());
        check.same("63 sets stay", x.lookAt(3), 63);
    }

    /** "all sets of NODES (not empty)" and "or nowhere, if that is empty" */
    private static void setsAreNotEmpty() {
        GuardForge x = check.rightText("(node a)");
        check.same("one set", x.lookAt(3), 1);
        check.same("one state", x.lookAt(4), 1);
        for (int letter = 0; letter < 16; letter++) {
            check.same("nowhere by " + letter, x.wayOf(0, letter), -1);
        }
        // A node that goes nowhere is a set all the same.
        x = check.rightText("(node a (go 1 b))(node b)");
        check.same("two sets", x.lookAt(3), 2);
        check.same("two states", x.lookAt(4), 2);
        check.same("to the second", x.wayOf(0, 1), 1);
        check.same("nowhere from there", x.wayOf(1, 1), -1);
        // A way whose guards can never be true goes nowhere.
        x = check.rightText("(node a (go 1 (arg 0 less 3) (arg 0 more 3) b))(node b)");
        check.same("never b", x.lookAt(3), 1);
        x = check.rightText("(node a (go 1 (arg 0 less -2147483648) b) (go 1 (arg 0 more 2147483647) b))(node b)");
        check.same("never b by ints that there are not", x.lookAt(3), 1);
    }

    /** "ALIKE if there is no row of LETTERS behind which there are NODES from one, and none from the other" */
    private static void alike() {
        // A row of nodes that is told from another one only by its very last call, 11 letters on.
        StringBuilder text = new StringBuilder("(node a (go 1 ba) (go 2 ca))");
        for (char k = 'a'; k < 'k'; k++) {
            char next = (char) (k + 1);
            text.append("(node b").append(k).append("(go 0 b").append(next).append("))");
            text.append("(node c").append(k).append("(go 0 c").append(next).append("))");
        }
        GuardForge x = check.rightText(text + "(node bk (go 3 a))(node ck (go 3 a))");
        check.same("23 sets", x.lookAt(3), 23);
        check.same("of 12 states", x.lookAt(4), 12);
        check.same("1 and 2 lead to the same", x.wayOf(0, 1), x.wayOf(0, 2));
        x = check.rightText(text + "(node bk (go 3 a))(node ck (go 4 a))");
        check.same("23 sets", x.lookAt(3), 23);
        check.same("told apart by the last call", x.lookAt(4), 23);
        x = check.rightText(text + "(node bk (go 3 a))(node ck)");
        check.same("told apart by going nowhere", x.lookAt(4), 23);
        x = check.rightText(text + "(node bk (go 3 (not (arg 0 same 5)) a))(node ck (go 3 a))");
        check.same("told apart by one letter of the last call", x.lookAt(4), 23);
        // More nodes are alike to fewer, if what they go by is the same.
        x = check.rightText("(node a (go 1 b) (go 1 c) (go 2 b) (go 3 c))(node b (go 4 a))(node c)");
        check.same("a, bc, b and c", x.lookAt(3), 4);
        check.same("bc and b are alike, c goes nowhere", x.lookAt(4), 3);
    }

    /** "that of START is 0; then for each STATE by its number, for each LETTER by its number: .. the next one" */
    private static void numbersOfStates() {
        GuardForge x = check.rightText("(node a (go 9 b) (go 1 (arg 0 more 5) c) (go 1 (arg 0 less 2) d))(node b (go 0 e))"
                + "(node c (go 0 c) (go 9 c))(node d (go 2 e) (go 1 f))(node e (go 15 e))(node f (go 14 f))");
        check.same("states", x.lookAt(4), 6);
        check.same("call 1 below 2: d", x.wayOf(0, 1), 1);
        check.same("call 1 from 2 to 5: nowhere", x.wayOf(0, 2), -1);
        check.same("call 1 above 5: c", x.wayOf(0, 3), 2);
        check.same("call 9: b", x.wayOf(0, 11), 3);
        for (int letter = 1; letter <= 3; letter++) {
            check.same("d by call 1: f", x.wayOf(1, letter), 4);
        }
        check.same("d by call 2: e", x.wayOf(1, 4), 5);
        check.same("b by call 0: e, which has a number", x.wayOf(3, 0), 5);
        check.same("e by call 15", x.wayOf(5, 17), 5);
        check.same("f by call 14", x.wayOf(4, 16), 4);
        check.same("no state 6", x.wayOf(6, 0), -1);
    }

    /** Promise 6: "that is the POLICY", whatever the object has read before */
    private static void usedBefore() {
        String small = "(counter c 2 (up 0))(node a (go 1 b) (go 2 c))(node b (go 1 a))(node c (go 1 a))";
        String[] others = {Policies.sets(63), "(node a)",
            "(counter c 9 (up any))(counter d 9 (zero any))(node a (go any (arg 0 same 3) (count d same 2) a))",
            Policies.letters(513), "(node a (go", "(counter c 1)(node a (go 3 (count d less 1) a))"};
        for (String other : others) {
            GuardForge x = check.rightText(small);
            for (int n = 0; n < 2; n++) {
                Check.policy(x, other);
                if (n == 1) {
                    Check.policy(x, "(node z (go 3 z))");
                }
                check.policyFault(x, small, 0, -1);
                int[] due = {1, 3, 16, 3, 2};
                for (int which = 0; which < due.length; which++) {
                    check.same("lookAt(" + which + ") behind another policy", x.lookAt(which), due[which]);
                }
                check.same("a by 1", x.wayOf(0, 1), 1);
                check.same("a by 2", x.wayOf(0, 2), 1);
                check.same("b by 1", x.wayOf(1, 1), 0);
                check.same("b by 2", x.wayOf(1, 2), -1);
                check.same("no state 2", x.wayOf(2, 1), -1);
                check.same("letter of call 3", x.letterOf(3, 1), LOW);
                check.same("no counter 1", x.counterOf(1, true), -1);
                check.same("watch by 1", x.watchCall(1, 3, 0, 0), 1);
                check.same("call 1 has no rule", x.counterOf(0, true), 0);
            }
        }
    }
}
