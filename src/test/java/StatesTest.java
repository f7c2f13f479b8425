/** Promises 19, 20 and 25: letters, sets and states of policies that were worked out by hand. */
public final class StatesTest {
    private static final Check check = new Check("StatesTest");
    private static final int LOW = Integer.MIN_VALUE;
    private static final int HIGH = Integer.MAX_VALUE;

    public static void main(String[] args) {
        intervalsOfArguments();
        intervalsOfCounters();
        sixCounters();
        orderOfLetters();
        whichGuardsCount();
        statesByOrder();
        alikeSets();
        missingArgument();
        wrongNumbers();
        check.end();
    }

    /** The least ints of one subject over letters that stand one behind the other. */
    private static void starts(GuardForge x, int from, int what, int... due) {
        for (int k = 0; k < due.length; k++) {
            check.same("letterOf(" + (from + k) + ", " + what + ")", x.letterOf(from + k, what), due[k]);
        }
    }

    private static void intervalsOfArguments() {
        GuardForge x = check.with("(node a (go 1 (arg 0 less 5) a))");
        check.same("less: letters", x.lookAt(2), 17);
        starts(x, 1, 1, LOW, 5);
        x = check.with("(node a (go 1 (arg 0 more 5) a))");
        starts(x, 1, 1, LOW, 6);
        x = check.with("(node a (go 1 (arg 0 same 5) a))");
        check.same("same: letters", x.lookAt(2), 18);
        starts(x, 1, 1, LOW, 5, 6);
        x = check.with("(node a (go 1 (not (arg 0 same 5)) (not (not (arg 0 less 7))) a))");
        check.same("not: letters", x.lookAt(2), 19);
        starts(x, 1, 1, LOW, 5, 6, 7);
        x = check.with("(node a (go 1 (arg 0 more 4) (arg 0 less 5) (arg 0 same 5) (arg 0 same 4) a))");
        check.same("the same divisions: letters", x.lookAt(2), 19);
        starts(x, 1, 1, LOW, 4, 5, 6);
        x = check.with("(node a (go 1 (arg 0 less -2147483648) (arg 0 more 2147483647) a))");
        check.same("nothing on one side: letters", x.lookAt(2), 16);
        x = check.with("(node a (go 1 (arg 0 same -2147483648) (arg 0 same 2147483647) a))");
        check.same("the outermost ints: letters", x.lookAt(2), 18);
        starts(x, 1, 1, LOW, LOW + 1, HIGH);
        x = check.with("(node a (go 1 (arg 0 less 2147483647) (arg 0 more -2147483648) a))");
        starts(x, 1, 1, LOW, LOW + 1, HIGH);
        check.same("the call behind", x.letterOf(4, 0), 2);
    }

    private static void intervalsOfCounters() {
        GuardForge x = check.with("(counter c 3) (node a (go 0 (count c less 0) (count c more 3) (count c less 4) "
                + "(count c more -1) a))");
        check.same("no divisions", x.lookAt(2), 16);
        x = check.with("(counter c 3) (node a (go 0 (count c same 0) (count c same 3) a))");
        check.same("divisions at both ends", x.lookAt(2), 18);
        starts(x, 0, 4, 0, 1, 3, 0);
        x = check.with("(counter c 3) (node a (go 0 (count c less -2147483648) (count c same 2147483647) "
                + "(count c more 2147483647) (count c same -2147483648) a))");
        check.same("far away", x.lookAt(2), 16);
        x = check.with("(counter c 1) (counter d 15) (node a (go any (count d more 7) a))");
        check.same("any: two letters each", x.lookAt(2), 32);
        for (int l = 0; l < 32; l++) {
            check.same("call of " + l, x.letterOf(l, 0), l / 2);
            check.same("c of " + l, x.letterOf(l, 4), 0);
            check.same("d of " + l, x.letterOf(l, 5), l % 2 == 0 ? 0 : 8);
            check.same("no counter 2 of " + l, x.letterOf(l, 6), 0);
        }
    }

    private static void sixCounters() {
        GuardForge x = check.with("(counter u 9)(counter v 9)(counter w 9)(counter x 9)(counter y 9)(counter z 9)"
                + "(node a (go 15 (count u same 9) a) (go 15 (count z more 4) a))");
        check.same("letters", x.lookAt(2), 15 + 4);
        starts(x, 15, 4, 0, 0, 9, 9);
        starts(x, 15, 5, 0, 0, 0, 0);
        starts(x, 15, 9, 0, 5, 0, 5);
    }

    private static void orderOfLetters() {
        GuardForge x = check.with("(counter c 3) (counter d 5) (node a (go 3 (arg 2 less 30) (arg 0 less 10) (arg 1 same 20)"
                + " (count d more 1) a) (go 3 (count c same 1) a))");
        check.same("letters", x.lookAt(2), 15 + 2 * 3 * 2 * 3 * 2);
        int l = 3;
        for (int a : new int[] {LOW, 10}) {
            for (int b : new int[] {LOW, 20, 21}) {
                for (int c : new int[] {LOW, 30}) {
                    for (int d : new int[] {0, 1, 2}) {
                        for (int e : new int[] {0, 2}) {
                            int[] due = {3, a, b, c, d, e, 0, 0, 0, 0};
                            for (int what = 0; what < due.length; what++) {
                                check.same("letterOf(" + l + ", " + what + ")", x.letterOf(l, what), due[what]);
                            }
                            l++;
                        }
                    }
                }
            }
        }
        check.same("then call 4", x.letterOf(l, 0), 4);
    }

    private static void whichGuardsCount() {
        GuardForge x = check.with("(counter c 3 (up 1 (arg 0 less 3) (count c less 2))) (node a (go 1 (arg 0 more 7) a))");
        check.same("rules divide nothing", x.lookAt(2), 17);
        starts(x, 1, 1, LOW, 8);
        x = check.with("(node a (go any (arg 1 less 3) a) (go 5 (arg 0 less 1) a))");
        // Calls 2, 3, 6, 7, 10, 11, 14 and 15 have an argument 1; of call 5 argument 0 is divided.
        check.same("any divides what there is", x.lookAt(2), 16 + 8 + 1);
        check.same("letter 1 is call 1", x.letterOf(1, 0), 1);
        starts(x, 2, 2, LOW, 3, LOW, 3);
        x = check.with("(node a) (node b (go 1 (arg 0 same 2) b))");
        check.same("ways of nodes that are never there", x.lookAt(2), 18);
        check.same("one set", x.lookAt(3), 1);
        for (int k = 0; k < 18; k++) {
            check.same("goes nowhere", x.wayOf(0, k), -1);
        }
    }

    private static void statesByOrder() {
        GuardForge x = check.with("(node s (go 2 b) (go 1 c)) (node b (go 0 b)) (node c (go 3 s) (go 2 d)) (node d (go 9 b))");
        check.same("nodes", x.lookAt(1), 4);
        check.same("sets", x.lookAt(3), 4);
        check.same("states", x.lookAt(4), 4);
        // By letters: s goes by 1 to c, which is 1, by 2 to b, which is 2; c goes by 2 to d, which is 3.
        check.same("s by 1", x.wayOf(0, 1), 1);
        check.same("s by 2", x.wayOf(0, 2), 2);
        check.same("c by 2", x.wayOf(1, 2), 3);
        check.same("c by 3", x.wayOf(1, 3), 0);
        check.same("b by 0", x.wayOf(2, 0), 2);
        check.same("b by 1", x.wayOf(2, 1), -1);
        check.same("d by 9", x.wayOf(3, 9), 2);
        check.same("d by 8", x.wayOf(3, 8), -1);
    }

    private static void alikeSets() {
        GuardForge x = check.with("(node a (go 1 b)) (node b (go 1 a))");
        check.same("sets that go on for ever", x.lookAt(3), 2);
        check.same("are one state", x.lookAt(4), 1);
        check.same("by 1", x.wayOf(0, 1), 0);
        x = check.with("(node a (go 1 b) (go 1 c)) (node b (go 2 d)) (node c (go 2 e)) (node d) (node e (go 3 e))");
        check.same("sets a, bc, de, e", x.lookAt(3), 4);
        // de and e are alike: d goes nowhere.
        check.same("states a, bc, e", x.lookAt(4), 3);
        check.same("e by 3", x.wayOf(2, 3), 2);
        check.same("e by 2", x.wayOf(2, 2), -1);
        x = check.with("(node a (go 1 b) (go 2 c)) (node b (go 1 d)) (node c (go 1 e)) (node d) (node e)");
        check.same("sets", x.lookAt(3), 5);
        check.same("b and c, d and e", x.lookAt(4), 3);
        check.same("a by 1", x.wayOf(0, 1), 1);
        check.same("a by 2", x.wayOf(0, 2), 1);
        check.same("b by 1", x.wayOf(1, 1), 2);
        // Told apart only by the third letter of a row.
        x = check.with("(node a (go 1 b) (go 2 c)) (node b (go 1 d)) (node c (go 1 e)) (node d (go 1 f)) (node e (go 1 g))"
                + " (node f (go 4 f)) (node g (go 5 g))");
        check.same("all are different", x.lookAt(4), 7);
        // For rows of letters, also such as counters never are: c is never 1, but the letter counts.
        x = check.with("(counter c 1) (node a (go 1 b) (go 2 c)) (node b (go 1 (count c same 1) b)) (node c)");
        check.same("letters tell apart", x.lookAt(4), 3);
    }

    private static void missingArgument() {
        // A guard about an argument that a call does not have is not true, so "not" of it is.
        GuardForge x = check.with("(node a (go any (not (arg 2 less 0)) a))");
        check.same("call 0", x.wayOf(0, 0), 0);
        check.same("call 2", x.wayOf(0, 2), 0);
        check.same("call 3 below 0", x.wayOf(0, 3), -1);
        check.same("call 3 from 0 on", x.wayOf(0, 4), 0);
        x = check.with("(node a (go any (arg 2 less 0) a))");
        check.same("call 0 without it", x.wayOf(0, 0), -1);
        check.same("call 3 below 0", x.wayOf(0, 3), 0);
        check.same("call 3 from 0 on", x.wayOf(0, 4), -1);
    }

    private static void wrongNumbers() {
        GuardForge x = check.with("(counter c 2) (node a (go 1 (arg 0 same 2) b)) (node b (go 1 a))");
        int letters = x.lookAt(2);
        check.same("letters", letters, 18);
        check.same("state -1", x.wayOf(-1, 0), -1);
        check.same("state 2", x.wayOf(2, 1), -1);
        check.same("state 62", x.wayOf(62, 1), -1);
        check.same("state max", x.wayOf(HIGH, 0), -1);
        check.same("letter -1", x.wayOf(0, -1), -1);
        check.same("letter behind", x.wayOf(1, letters), -1);
        check.same("letter min", x.wayOf(0, LOW), -1);
        check.same("letterOf -1", x.letterOf(-1, 0), 0);
        check.same("letterOf behind", x.letterOf(letters, 0), 0);
        check.same("letterOf max", x.letterOf(HIGH, 1), 0);
        check.same("letterOf what -1", x.letterOf(17, -1), 0);
        check.same("letterOf what 10", x.letterOf(17, 10), 0);
        check.same("letterOf what max", x.letterOf(17, HIGH), 0);
        check.same("letterOf the last", x.letterOf(17, 0), 15);
        check.same("letterOf the last's last argument", x.letterOf(17, 3), LOW);
        for (int which : new int[] {-1, 14, 15, HIGH, LOW}) {
            check.same("lookAt(" + which + ")", x.lookAt(which), -1);
        }
    }
}
