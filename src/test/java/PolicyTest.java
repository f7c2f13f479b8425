/** Promise 6: texts of policies, their faults and the places of these; TextEdgesTest has the boundary cases. */
public final class PolicyTest {
    private static final Check check = new Check("PolicyTest");

    public static void main(String[] args) {
        rightTexts();
        tokens();
        wrongTokens();
        longTexts();
        namesAndArguments();
        tooManyLetters();
        tooManySets();
        whatLoadingChanges();
        check.end();
    }

    private static void right(String text) {
        check.rightText(text);
    }

    private static void fault(String text, int fault, int place) {
        check.wrongText(text, fault, place);
    }

    private static void at(String text, int fault) {
        check.wrongAt(text, fault);
    }

    private static void rightTexts() {
        right("(node a)");
        right("(node a (go any a))");
        right("(counter a 1)(node a)");
        right("(node b (go 1 a)) (node a (go 2 b))");
        right("(counter c 3 (up 1 (count d less 2))) (counter d 2) (node a (go 0 (count d same 0) a))");
        right("(node a (go 3 (arg 0 less 1) (arg 1 same 2) (arg 2 more 3) (not (not (not (arg 0 same 5)))) a))");
        right("(node a (go any (arg 2 more 100) a))");
        right("(counter c 15 (up any) (zero 0) (up 15) (zero any))(node a)");
        right("(node counters)");
        right("(node ups (go 0 arguments))(node arguments)");
    }

    private static void tokens() {
        right("(node abcdefghijkl)");
        right("\n\n(node\na\n(go\nany\na)\n)\n ");
        right("(node a(go any(arg 0 less 1)a))");
        right("(node a (go 000000000000000000000000000000000015 a))");
        right("(node a (go -0 a))");
        right("(node a (go 1 (arg 0 less -2147483648) (arg 0 more 2147483647) a))");
        right("(node a (go 1 (arg 0 less -00002147483648) a))");
        at("(node @abcdefghijklm)", 1);
        at("(node a (go 1 (arg 0 less @2147483648) a))", 1);
        at("(node a (go 1 (arg 0 less @-2147483649) a))", 1);
        at("(node a (go 1 (arg 0 less @99999999999999999999999999999) a))", 1);
        at("(node a (go 1 (arg 0 less @18446744073709551617) a))", 1);
        at("(node a (go @- a))", 1);
        at("(node a (go @--1 a))", 1);
        at("(node a (go @1- a))", 1);
        at("(node a (go @1a a))", 1);
        at("(node a (go 1 @a1))", 1);
        at("(node a (go 1 @a-))", 1);
        at("(node @A)", 1);
        at("(node@\ta)", 1);
        at("(node a)@\r\n", 1);
        at("(node a) @\u00ff", 1);
        at("(node a) @\u0000", 1);
        at("@.", 1);
        at("(node a) (node b@_c)", 1);
    }

    private static void wrongTokens() {
        at("@)", 2);
        at("@node", 2);
        at("@7", 2);
        at("(node a)@)", 2);
        at("(@)", 2);
        at("(@(", 2);
        at("(@go)", 2);
        at("(@nodes a)", 2);
        at("(node @5)", 2);
        at("(node @(", 2);
        at("(node a @b)", 2);
        at("(node a (@node b))", 2);
        at("(node a (@up 1 a))", 2);
        at("(node a (go @a))", 2);
        at("(node a (go @less a))", 2);
        at("(node a (go @16 a))", 2);
        at("(node a (go @-1 a))", 2);
        at("(node a (go 1 @2 a))", 2);
        at("(node a (go 1 @))", 2);
        at("(node a (go 1 a @a))", 2);
        at("(node a (go 1 a @(arg 0 less 1)))", 2);
        at("(node a (go 1 (@a)))", 2);
        at("(node a (go 1 (@any 1) a))", 2);
        at("(node a (go 1 (arg @3 less 1) a))", 2);
        at("(node a (go 1 (arg @-1 less 1) a))", 2);
        at("(node a (go 1 (arg @a less 1) a))", 2);
        at("(node a (go 1 (arg 0 @1 1) a))", 2);
        at("(node a (go 1 (arg 0 @any 1) a))", 2);
        at("(node a (go 1 (arg 0 @equal 1) a))", 2);
        at("(node a (go 1 (arg 0 less @a) a))", 2);
        at("(node a (go 1 (arg 0 less 1 @2) a))", 2);
        at("(node a (go 1 (not @arg 0 less 1) a))", 2);
        at("(node a (go 1 (not (arg 0 less 1) @(arg 0 less 1)) a))", 2);
        at("(node a (go 1 (count @1 less 1) a))", 2);
        at("(counter @3 c)", 2);
        at("(counter c @d)", 2);
        at("(counter c @0)", 2);
        at("(counter c @16)", 2);
        at("(counter c @-1)", 2);
        at("(counter c 3 (@go 1))", 2);
        at("(counter c 3 (up @16))", 2);
        at("(counter c 3 (up 1 @c))", 2);
        at("(counter c 3 @c)", 2);
    }

    private static void longTexts() {
        String g = "(arg 0 less 1)";
        right(Build.named(6, "(counter ", " 2" + "(up 1)".repeat(4) + ")") + Build.named(24, "(node ", "(go 1 a)".repeat(8) + ")"));
        right(Build.named(6, "(counter ", " 2" + "(up 0)".repeat(4) + ")")
                + Build.named(24, "(node ", ("(go 5" + g + "x)").repeat(8) + ")"));
        // As many tokens as there can be bytes (beyond the 512 calls that are promised).
        at("(@" + "(".repeat(8191), 2);
        at(" ".repeat(8191) + "@)", 2);
        fault("\n".repeat(8192), 4, 8192);
    }

    private static void namesAndArguments() {
        at("(node a (go 1 @b))", 5);
        at("(counter b 1)(node a (go 1 @b))", 5);
        at("(node c (go 1 (count @c less 2) c))", 5);
        at("(counter c 1 (up 1 (count @d less 1)))(node a)", 5);
        at("(node a (go 2 (arg @2 less 1) a))", 6);
        at("(node a (go 0 (arg @0 less 1) a))", 6);
        at("(node a (go 4 (not (not (arg @0 less 1))) a))", 6);
        at("(counter c 2 (up 1 (arg @1 same 2)))(node a)", 6);
        at("(node a (go 1 (arg @1 less 1) b))", 6);
        at("(node a (go 3 (arg 1 less 1) @b) (go 1 (arg 1 less 1) a))", 5);
        at("(counter c 1 (zero 9 (arg @2 less 1)))(node a (go 1 b))", 6);
        at("(node a (go 1 (count @c less 1) (arg 2 less 1) a))", 5);
        at("(node a (go 1 (arg @2 less 1) (count c less 1) a))", 6);
        at("(node a (go 1 b)) (node c @d)", 2);
        right("(counter c 1 (up any (arg 2 less 1)))(node a (go any (arg 2 same 1) a))");
        at(Build.named(6, "(counter ", " 2)") + "(node a (go 1 (count @g less 1) a))", 5);
        at(Build.named(23, "(node ", ")") + "(node x (go 1 @y))", 5);
        // Names of a text that was read before are gone.
        GuardForge x = new GuardForge();
        check.policyFault(x, "(counter u 1)(counter v 1)(node a)(node b)", 0, -1);
        check.policyFault(x, "(counter u 1)(node a (go 0 (count v less 1) a))", 5, 34);
        check.policyFault(x, "(counter u 1)(node a (go 0 b))", 5, 27);
    }

    /** Nodes whose ways have so many "same" guards, at even numbers, two intervals more each. */
    private static String intervals(int call, int argument, int guards) {
        StringBuilder text = new StringBuilder();
        int node = 0;
        int ways = 0;
        for (int k = 0; k < guards; k++) {
            if (k % 4 == 0) {
                if (ways % 8 == 0) {
                    text.append(ways == 0 ? "" : ")").append("(node ").append((char) ('a' + node));
                    node++;
                }
                ways++;
                text.append("(go ").append(call);
            }
            text.append("(arg ").append(argument).append(" same ").append(2 * k).append(")");
            if (k % 4 == 3 || k == guards - 1) {
                text.append("a)");
            }
        }
        return text + ")";
    }

    private static void tooManyLetters() {
        GuardForge x = new GuardForge();
        // 15 calls with one letter each, and 1 + 2 * 248 of call 1.
        check.policyFault(x, intervals(1, 0, 248), 0, -1);
        check.same("letters", x.lookAt(2), 512);
        String more = intervals(1, 0, 247)
                + "(node x (go 1 (arg 0 less -7) a) (go 1 (arg 0 less -9) a) (go 1 (arg 0 less -11) a))";
        check.policyFault(x, more, 7, more.length());
        check.same("the policy stays", x.lookAt(2), 512);
        String all = intervals(3, 0, 400) + " ";
        check.policyFault(new GuardForge(), all, 7, all.length());
        String product = "(counter c 15)(counter d 15)(node a (go 0 (count c same 3)(count c same 5)(count c same 7)"
                + "(count c same 9) a)(go 0 (count d same 3)(count d same 5)(count d same 7)(count d same 9) a)"
                + "(go 0 (count c same 11)(count d same 11)(count c same 13)(count d same 13) a))";
        GuardForge y = new GuardForge();
        check.policyFault(y, product, 0, -1);
        check.same("13 * 13 + 15", y.lookAt(2), 184);
        String tooMuch = product.replace("(go 0", "(go any");
        check.policyFault(y, tooMuch, 7, tooMuch.length());
        // Too many letters and too many sets: the letters are told.
        String both = manySets(6, "(go any (count c same 1) a)") + "(node z (go any (arg 0 same 1)(arg 1 same 1)"
                + "(arg 2 same 1) a) (go any (arg 0 same 3)(arg 1 same 3)(arg 2 same 3) a))";
        both = "(counter c 3)" + both;
        check.policyFault(y, both, 7, both.length());
    }

    /** Which of the latest n calls were 2: START and any of n nodes, so 2^n sets. */
    private static String manySets(int n, String more) {
        StringBuilder text = new StringBuilder("(node a (go 1 a)(go 2 a)(go 2 q" + (char) ('a' + n - 1) + ")" + more + ")");
        for (int k = n - 1; k > 0; k--) {
            String next = "q" + (char) ('a' + k - 1);
            text.append("(node q").append((char) ('a' + k));
            text.append("(go 1 ").append(next).append(")(go 2 ").append(next).append("))");
        }
        return text + "(node qa)";
    }

    private static void tooManySets() {
        GuardForge x = new GuardForge();
        check.policyFault(x, manySets(5, ""), 0, -1);
        check.same("sets", x.lookAt(3), 32);
        check.same("states", x.lookAt(4), 1);
        String text = manySets(6, "");
        check.policyFault(x, text, 8, text.length());
        check.same("sets stay", x.lookAt(3), 32);
        // 32, 16 single nodes of a row, and 15 pairs of those that are neighbours.
        StringBuilder row = new StringBuilder();
        for (char k = 'a'; k < 'p'; k++) {
            row.append("(node r").append(k).append("(go 8 r").append((char) (k + 1)).append("))");
        }
        row.append("(node rp)");
        check.policyFault(x, manySets(5, "(go 8 ra)(go 12 ra)(go 12 rb)") + row, 0, -1);
        check.same("63 sets", x.lookAt(3), 63);
        String more = manySets(5, "(go 8 ra)(go 12 ra)(go 12 rb)(go 5 s)") + row + "(node s)";
        check.policyFault(x, more, 8, more.length());
        check.same("63 sets stay", x.lookAt(3), 63);
    }

    private static void whatLoadingChanges() {
        GuardForge x = new GuardForge();
        check.same("program", Check.program(x, Build.main("host 0, return")), 0);
        check.same("forge", x.forgeIt(), 0);
        check.same("run", x.runIt(true, 100), 0);
        check.policyFault(x, "(node a", 3, 7);
        check.same("forged stays behind a fault", x.lookAt(7), 2);
        check.same("run stays behind a fault", x.endOf(0), 0);
        check.policyFault(x, "(counter c 3 (up 1)) (node a (go 1 b)) (node b (go 2 a))", 0, -1);
        check.same("nothing is forged", x.lookAt(7), -1);
        check.same("no run", x.endOf(0), -1);
        check.same("the program stays", x.lookAt(6), 2);
        check.same("needs are by this policy", x.codeOf(false, 0, 0, 5), 1);
        check.same("watch", x.watchCall(1, 0, 0, 0), 1);
        check.same("watch counter", x.counterOf(0, true), 1);
        check.policyFault(x, "(node", 3, 5);
        check.same("watch stays behind a fault", x.lookAt(13), 1);
        check.same("counter stays behind a fault", x.counterOf(0, true), 1);
        check.policyFault(x, "(counter c 3 (up 1)) (node a (go 1 b)) (node b (go 2 a))", 0, -1);
        check.same("watch as at first", x.lookAt(13), 0);
        check.same("counter as at first", x.counterOf(0, true), 0);
        check.policyFault(x, "(node a (go any a))", 0, -1);
        check.same("needs nothing now", x.codeOf(false, 0, 0, 5), 0);
    }
}
