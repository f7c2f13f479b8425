/** Promises 16 to 18: the watch that watchCall() steps, and its counters. */
public final class WatchTest {
    private static final Check check = new Check("WatchTest");

    public static void main(String[] args) {
        stepping();
        firstRuleIsDone();
        countersAheadOfTheCall();
        argumentsThatACallHas();
        wrongNumbers();
        whatResetsIt();
        check.end();
    }

    private static void stepping() {
        GuardForge x = check.with("(counter c 2 (up 1) (zero 2)) (node a (go 1 b)) (node b (go 1 (count c less 2) b) (go 2 a))");
        check.same("at first", x.lookAt(13), 0);
        check.same("a by 1", x.watchCall(1, 9, 0, 0), 1);
        check.same("c", x.counterOf(0, true), 1);
        check.same("b by 1", x.watchCall(1, 9, 0, 0), 1);
        check.same("c", x.counterOf(0, true), 2);
        check.same("b by 1, but c is 2", x.watchCall(1, 9, 0, 0), -1);
        check.same("the watch stays", x.lookAt(13), 1);
        check.same("c stays", x.counterOf(0, true), 2);
        check.same("b by 3", x.watchCall(3, 9, 0, 0), -1);
        check.same("b by 2", x.watchCall(2, 9, 0, 0), 0);
        check.same("c is 0", x.counterOf(0, true), 0);
        check.same("a by 2", x.watchCall(2, 9, 0, 0), -1);
        check.same("a stays", x.lookAt(13), 0);
    }

    private static void firstRuleIsDone() {
        GuardForge x = check.with("(counter c 15 (zero 1 (arg 0 same 7)) (up any (arg 0 more 0)) (zero 1)) "
                + "(counter d 2 (up any)) (node a (go any a))");
        int[][] due = {{1, 1, 1}, {5, 2, 2}, {9, 3, 2}, {7, 0, 2}, {8, 1, 2}, {0, 0, 2}};
        for (int[] row : due) {
            check.same("call 1 with " + row[0], x.watchCall(1, row[0], 0, 0), 0);
            check.same("c behind " + row[0], x.counterOf(0, true), row[1]);
            check.same("d behind " + row[0], x.counterOf(1, true), row[2]);
        }
        // Call 4 has no argument 0, so no rule of c is for it.
        x.watchCall(1, 3, 0, 0);
        check.same("call 4", x.watchCall(4, 3, 0, 0), 0);
        check.same("c stays", x.counterOf(0, true), 1);
        for (int k = 0; k < 20; k++) {
            x.watchCall(5, 3, 0, 0);
        }
        check.same("at most 15", x.counterOf(0, true), 15);
    }

    private static void countersAheadOfTheCall() {
        // d looks at c as it is ahead of the call, and c at d.
        GuardForge x = check.with("(counter c 5 (up 0 (count d same 0)) (zero 0)) (counter d 5 (up 0 (count c same 1)) "
                + "(zero 0)) (node a (go any a))");
        int[][] due = {{1, 0}, {2, 1}, {0, 0}, {1, 0}, {2, 1}, {0, 0}};
        for (int k = 0; k < due.length; k++) {
            x.watchCall(0, 0, 0, 0);
            check.same("c behind " + k, x.counterOf(0, true), due[k][0]);
            check.same("d behind " + k, x.counterOf(1, true), due[k][1]);
        }
        // A way looks at them ahead of the call, too.
        x = check.with("(counter c 5 (up 0)) (node a (go 0 (count c less 2) a))");
        check.same("c 0", x.watchCall(0, 0, 0, 0), 0);
        check.same("c 1", x.watchCall(0, 0, 0, 0), 0);
        check.same("c 2", x.watchCall(0, 0, 0, 0), -1);
        check.same("c stays 2", x.counterOf(0, true), 2);
    }

    private static void argumentsThatACallHas() {
        GuardForge x = check.with("(node a (go 7 (arg 0 less 0) (arg 1 same 0) (arg 2 more 0) b) (go 6 (arg 1 same 5) a)) "
                + "(node b (go 0 a))");
        check.same("not below 0", x.watchCall(7, 0, 0, 1), -1);
        check.same("not 0", x.watchCall(7, -1, 1, 1), -1);
        check.same("not above 0", x.watchCall(7, -1, 0, 0), -1);
        check.same("min and max", x.watchCall(7, Integer.MIN_VALUE, 0, Integer.MAX_VALUE), 1);
        check.same("no arguments", x.watchCall(0, 99, 98, 97), 0);
        check.same("argument 2 is not looked at", x.watchCall(6, 1, 5, 12345), 0);
        check.same("argument 1 is", x.watchCall(6, 1, 4, 12345), -1);
    }

    private static void wrongNumbers() {
        GuardForge x = check.with("(counter c 3 (up any)) (node a (go any a))");
        for (int number : new int[] {-1, 16, 17, Integer.MIN_VALUE, Integer.MAX_VALUE}) {
            check.same("watchCall " + number, x.watchCall(number, 0, 0, 0), -1);
        }
        check.same("nothing has changed", x.counterOf(0, true), 0);
        for (int k : new int[] {-1, 1, 6, Integer.MIN_VALUE, Integer.MAX_VALUE}) {
            check.same("counterOf " + k, x.counterOf(k, true), -1);
            check.same("counterOf " + k + " of the run", x.counterOf(k, false), -1);
        }
        check.same("no run", x.counterOf(0, false), -1);
    }

    private static void whatResetsIt() {
        String text = "(counter c 3 (up any)) (node a (go 0 b)) (node b (go 0 c)) (node c)";
        GuardForge x = check.with(text);
        x.watchCall(0, 0, 0, 0);
        check.same("state", x.lookAt(13), 1);
        check.same("program", Check.program(x, Build.main("host 0, host 0, return")), 0);
        check.same("loadProgram leaves it", x.lookAt(13), 1);
        check.same("forge", x.forgeIt(), 2);
        check.same("run", x.runIt(true, 100), 0);
        check.same("a run has its own", x.endOf(5), 2);
        check.same("counter of the run", x.counterOf(0, false), 2);
        check.same("a run leaves it", x.lookAt(13), 1);
        check.same("and its counter", x.counterOf(0, true), 1);
        x.watchCall(0, 0, 0, 0);
        check.same("the run's counter stays", x.counterOf(0, false), 2);
        check.same("the run's state stays", x.endOf(5), 2);
        x.resetWatch();
        check.same("state as at first", x.lookAt(13), 0);
        check.same("counter as at first", x.counterOf(0, true), 0);
        check.same("the run's counter still stays", x.counterOf(0, false), 2);
        check.same("and it goes on", x.watchCall(0, 0, 0, 0), 1);
    }
}
