/**
 * Under "POLICIES", TOKENS to FAULTS: each sentence that names a boundary case, one method each, the sentence
 * ahead of it. In the texts @ stands where the fault's place is.
 */
public final class TextEdgesTest {
    private static final Check check = new Check("TextEdgesTest");
    private static final String G = "(arg 0 less 1)";
    private static final String[] WORDS = {"counter", "node", "up", "zero", "go", "arg", "count", "not", "any", "less",
        "same", "more"};

    public static void main(String[] args) {
        lettersOfNames();
        lettersFromAToZ();
        rangeOfNumbers();
        zerosAhead();
        minusAhead();
        otherBytes();
        blanksBetween();
        runsAreOneToken();
        sixCounters();
        mostOfCounters();
        fourRules();
        nodes();
        eightWays();
        callsOfClauses();
        fourGuards();
        argumentsOfGuards();
        notTakesOne();
        differentNames();
        namesThatAreNearlyTheSame();
        aheadOfTheirPlace();
        wordsAreNoNames();
        firstFaultByPlace();
        tooManyWhateverStandsBehind();
        counterBehindANode();
        textEnds();
        noNode();
        namesThatThereAreNot();
        argumentsThatCallsDoNotHave();
        orderOfTheText();
        whichFaultIsFirst();
        check.end();
    }

    private static void right(String text) {
        check.rightText(text);
    }

    private static void at(String text, int fault) {
        check.wrongAt(text, fault);
    }

    /** A policy in which one number stands as k of (arg 0 less k), with what is right around it. */
    private static String withNumber(String number) {
        return "(node a (go 1 (arg 0 less " + number + ") a))";
    }

    /** The least int of the upper INTERVAL tells which number was read. */
    private static void reads(String number, int due) {
        GuardForge x = check.rightText(withNumber(number));
        check.same("what is read as " + number, x.letterOf(2, 1), due);
    }

    /** "a NAME of 1 to 12 letters a .. z" and fault 1: "a NAME of more than 12 letters" */
    private static void lettersOfNames() {
        String twelve = "abcdefghijkl";
        right("(node a)");
        right("(node " + twelve + ")");
        right("(counter " + twelve + " 1)(node " + twelve + "(go 0 (count " + twelve + " less 1) " + twelve + "))");
        at("(node @" + twelve + "m)", 1);
        at("(counter @" + twelve + "m 1)(node a)", 1);
        at("(node a (go 0 @" + twelve + "m))", 1);
        at("(node a (go 0 (count @" + twelve + "m less 1) a))", 1);
        at("(@" + twelve + "m a)", 1);
        at("(node @" + "n".repeat(100) + ")", 1);
        // A word is never that long, so more letters make it none.
        at("(@node" + "e".repeat(9), 1);
        at("(@node" + "e".repeat(8), 2);
    }

    /** "letters a .. z" */
    private static void lettersFromAToZ() {
        for (char c = 'a'; c <= 'z'; c++) {
            right("(node " + c + ")");
        }
        for (int b : new int[] {'a' - 1, 'z' + 1, 'A', 'Z', '_', 'a' | 128}) {
            check.wrongText("(node " + (char) b + ")", 1, 6);
            check.wrongText("(node a" + (char) b + ")", 1, 7);
        }
    }

    /** "a NUMBER: digits, .. from -2147483648 to 2147483647" and fault 1: "a NUMBER that is none" */
    private static void rangeOfNumbers() {
        reads("2147483647", Integer.MAX_VALUE);
        reads("-2147483647", Integer.MIN_VALUE + 1);
        GuardForge x = check.rightText(withNumber("-2147483648"));
        check.same("the least number divides nothing", x.lookAt(2), 16);
        x = check.rightText("(node a (go 1 (arg 0 more -2147483648) a))");
        check.same("the least number", x.letterOf(2, 1), Integer.MIN_VALUE + 1);
        String[] none = {"2147483648", "-2147483649", "2147483650", "-2147483650", "4294967295", "4294967296",
            "4294967297", "-4294967295", "-4294967296", "9223372036854775807", "9223372036854775808",
            "-9223372036854775809", "18446744073709551615", "18446744073709551616", "18446744073709551621",
            "-18446744073709551611", "340282366920938463463374607431768211461", "1" + "0".repeat(500)};
        for (String number : none) {
            at(withNumber("@" + number), 1);
        }
        // It is none wherever it stands, also where another token would have to be.
        at("(node @2147483648)", 1);
        at("(counter c @2147483648)", 1);
        at("@2147483648", 1);
        for (int b : new int[] {'0' - 1, '9' + 1}) {
            check.wrongText("(node a (go 1" + (char) b + " a))", 1, 13);
        }
    }

    /** "(of any length, 0s ahead or not)" */
    private static void zerosAhead() {
        reads("0", 0);
        reads("0".repeat(400), 0);
        reads("0".repeat(400) + "7", 7);
        reads("0".repeat(400) + "2147483647", Integer.MAX_VALUE);
        reads("-" + "0".repeat(400) + "2147483647", Integer.MIN_VALUE + 1);
        right(withNumber("-" + "0".repeat(400) + "2147483648"));
        at(withNumber("@" + "0".repeat(400) + "2147483648"), 1);
        at(withNumber("@-" + "0".repeat(400) + "2147483649"), 1);
        right("(counter c 0015)(node a (go 0000 (count c less 1) a) (go 015 (arg 02 less 1) a))");
        at("(counter c @0016)", 2);
    }

    /** "with - ahead or not" */
    private static void minusAhead() {
        reads("-0", 0);
        reads("-00", 0);
        reads("-1", -1);
        right("(node a (go -0 a) (go any (arg -0 less 1) a))");
        for (String none : new String[] {"-", "--", "--1", "1-", "1-1", "-1-", "-a", "-1a"}) {
            at(withNumber("@" + none), 1);
        }
        at("(node a (go 1 @a-))", 1);
        at("(node a (go 1 @a-1))", 1);
        right("(node a (go 1 (arg 0 less -5)a))");
        at("(node a (go 1 (arg 0 less @- 5) a))", 1);
    }

    /** "Blanks (32) and ends of lines (10) stand between TOKENS as one likes .. Other bytes are none." */
    private static void otherBytes() {
        for (int b = 0; b < 256; b++) {
            String text = "(node a)" + (char) b;
            if (b == ' ' || b == '\n') {
                right(text);
                right((char) b + "(node" + (char) b + "a)");
            } else if (b == '(') {
                check.wrongText(text, 3, 9);
            } else if (b == ')' || b >= '0' && b <= '9' || b >= 'a' && b <= 'z') {
                check.wrongText(text, 2, 8);
            } else {
                check.wrongText(text, 1, 8);
                check.wrongText((char) b + text, 1, 0);
            }
        }
        right(" \n\n  ( \n node \n a \n ( go \n\n any   a ) \n ) \n\n\n   ");
    }

    /** "and have to between NAMES and NUMBERS" */
    private static void blanksBetween() {
        right("(counter c 3(up 1(count c less 2)(arg 0 same -4)))(node a(go any(not(arg 2 more 7))a)(go 1 a))");
        at("(@nodea)", 2);
        at("(@counterc 3)", 2);
        at("(counter @c3)", 1);
        at("(counter c @3up)", 1);
        at("(node a (@go1 a))", 1);
        at("(node a (go @1a))", 1);
        at("(node a (go @anya))", 2);
        at("(node a (go 1 (@arg0 less 1) a))", 1);
        at("(node a (go 1 (arg @0less 1) a))", 1);
        at("(node a (go 1 (arg 0 @less1) a))", 1);
        at("(node a (go 1 (arg 0 @less-1) a))", 1);
    }

    /** "(Letters, digits and - that stand one behind the other are one TOKEN, or none.)" */
    private static void runsAreOneToken() {
        // Twelve letters and a digit are no NAME and a NUMBER, but none.
        at("(node @abcdefghijkl1)", 1);
        at("(node @a1b2c3)", 1);
        at("(node a (go @12any a))", 1);
        at("(node @a-b)", 1);
        // A byte that is of no TOKEN ends what stands ahead of it.
        at("(node a@#b)", 1);
        at("(node @5#)", 2);
    }

    /** "up to 6 COUNTERS" and fault 2: "the word counter where there are 6" */
    private static void sixCounters() {
        for (int n = 0; n <= 6; n++) {
            GuardForge x = check.rightText(Build.named(n, "(counter ", " 2)") + "(node a)");
            check.same("counters", x.lookAt(0), n);
            check.same("counterOf the last", x.counterOf(n - 1, true), n == 0 ? -1 : 0);
            check.same("counterOf one behind", x.counterOf(n, true), -1);
        }
        String six = Build.named(6, "(counter ", " 2)");
        at(six + "(@counter g 2)(node a)", 2);
        at(six + "(@counter a 2)(node a)", 2);
        at(six + "(@counter", 2);
        at(six + "(@go", 2);
        check.wrongText(six + "(", 3, six.length() + 1);
        check.wrongText(six, 4, six.length());
    }

    /** "(counter X m RULE ..), m 1 .. 15" and fault 2: "a NUMBER that can not be one" */
    private static void mostOfCounters() {
        for (int m = 1; m <= 15; m++) {
            GuardForge x = check.rightText("(counter c " + m + " (up 0))(node a (go 0 a))");
            for (int n = 1; n <= m + 2; n++) {
                check.same("up", x.watchCall(0, 0, 0, 0), 0);
                check.same("at most " + m, x.counterOf(0, true), Math.min(n, m));
            }
        }
        for (String m : new String[] {"0", "16", "-1", "-15", "17", "31", "2147483647", "-2147483648"}) {
            at("(counter c @" + m + ")(node a)", 2);
        }
    }

    /** "each with up to 4 RULES" and fault 2: "one RULE .. too many" */
    private static void fourRules() {
        for (int n = 0; n <= 4; n++) {
            right("(counter c 1" + "(up 1)".repeat(n) + ")(counter d 1" + "(zero 1)".repeat(n) + ")(node a)");
        }
        at("(counter c 1" + "(up 1)".repeat(4) + "@(up 1))(node a)", 2);
        at("(counter c 1" + "(zero 1)".repeat(4) + "@(zero 1))(node a)", 2);
        // Of each one: a second counter has four of its own.
        at("(counter c 1" + "(up 1)".repeat(4) + ")(counter d 1" + "(up 1)".repeat(4) + "@(up 1))(node a)", 2);
        // The fourth rule is done, too.
        GuardForge x = check.rightText("(counter c 9 (up 1)(up 2)(up 3)(up 4))(node a (go any a))");
        x.watchCall(4, 0, 0, 0);
        check.same("the fourth rule", x.counterOf(0, true), 1);
    }

    /** "then 1 to 24 NODES" and fault 2: "one .. NODE .. too many" */
    private static void nodes() {
        for (int n = 1; n <= 24; n++) {
            check.same("nodes", check.rightText(Build.named(n, "(node ", ")")).lookAt(1), n);
        }
        String all = Build.named(24, "(node ", ")");
        at(all + "@(node y)", 2);
        at(all + "@(node a)", 2);
        at(all + "@)", 2);
        // Behind 24 NODES nothing can be but blanks, however many COUNTERS are ahead of them.
        for (int n = 0; n <= 6; n++) {
            String full = Build.named(n, "(counter ", " 1)") + all;
            right(full + " \n ");
            for (String token : new String[] {"(", ")", "x", "5", "node", "counter", "(node y)", "(counter y 1)"}) {
                at(full + "@" + token, 2);
            }
            at(full + "@#", 1);
        }
        check.wrongText("(counter c 1)", 4, 13);
        // The last one can be gone to.
        GuardForge x = check.rightText(Build.named(23, "(node ", "(go 1 x))") + "(node x (go 2 x))");
        check.same("to the last node", x.watchCall(1, 0, 0, 0), 1);
        check.same("from the last node", x.watchCall(2, 0, 0, 0), 1);
        check.same("from the last node by 1", x.watchCall(1, 0, 0, 0), -1);
    }

    /** "each with up to 8 WAYS" and fault 2: "one .. WAY .. too many" */
    private static void eightWays() {
        for (int n = 0; n <= 8; n++) {
            right("(node a" + "(go 1 a)".repeat(n) + ")(node b" + "(go 1 a)".repeat(n) + ")");
        }
        at("(node a" + "(go 1 a)".repeat(8) + "@(go 1 a))", 2);
        at("(node a" + "(go 1 a)".repeat(8) + ")(node b" + "(go 1 a)".repeat(8) + "@(go 1 a))", 2);
        GuardForge x = check.rightText("(node a" + "(go 1 a)".repeat(7) + "(go 9 a))");
        check.same("the eighth way", x.watchCall(9, 0, 0, 0), 0);
        check.same("no ninth way", x.watchCall(8, 0, 0, 0), -1);
    }

    /** "C is a number of a CALL OUTSIDE, or any", and that is "0 .. 15" */
    private static void callsOfClauses() {
        for (String clause : new String[] {"(counter c 1 (up %s))(node a)", "(counter c 1 (zero %s))(node a)",
            "(node a (go %s a))"}) {
            for (int c = 0; c <= 15; c++) {
                right(String.format(clause, c));
            }
            right(String.format(clause, "any"));
            for (String c : new String[] {"16", "-1", "17", "255", "-2147483648", "2147483647", "(", "all", "go"}) {
                at(String.format(clause, "@" + c), 2);
            }
        }
        at("(node a (go @))", 2);
        at("(counter c 1 (up @))(node a)", 2);
    }

    /** "There are up to 4 G in each" and fault 2: "one .. G too many" */
    private static void fourGuards() {
        for (String clause : new String[] {"(counter c 1 (up 1 %s))(node a)", "(counter c 1 (zero 1 %s))(node a)",
            "(node a (go 1 %s a))"}) {
            for (int n = 0; n <= 4; n++) {
                right(String.format(clause, G.repeat(n)));
                right(String.format(clause, ("(not (not " + G + "))").repeat(n)));
            }
            at(String.format(clause, G.repeat(4) + "@" + G), 2);
            at(String.format(clause, ("(not " + G + ")").repeat(4) + "@(not " + G + ")"), 2);
        }
        // All four have to be true, the first and the last, too.
        for (int wrong = 0; wrong < 4; wrong++) {
            StringBuilder guards = new StringBuilder();
            for (int g = 0; g < 4; g++) {
                guards.append("(arg 0 same ").append(g == wrong ? 6 : 5).append(")");
            }
            GuardForge x = check.rightText("(node a (go 1 " + guards + " a))");
            check.same("guard " + wrong + " is false", x.watchCall(1, 5, 0, 0), -1);
        }
        GuardForge x = check.rightText("(node a (go 1 " + "(arg 0 same 5)".repeat(4) + " a))");
        check.same("four that are true", x.watchCall(1, 5, 0, 0), 0);
    }

    /** "(arg i OP k), i 0 .. 2" */
    private static void argumentsOfGuards() {
        for (String clause : new String[] {"(counter c 1 (up any (arg %s less 1)))(node a)",
            "(node a (go any (arg %s less 1) a))", "(node a (go 15 (not (arg %s less 1)) a))"}) {
            for (int i = 0; i <= 2; i++) {
                right(String.format(clause, i));
            }
            for (String i : new String[] {"3", "-1", "4", "2147483647", "-2147483648", "a", "any", "("}) {
                at(String.format(clause, "@" + i), 2);
            }
        }
    }

    /** "(not G)": one G, and a G again, however deep */
    private static void notTakesOne() {
        at("(node a (go 1 (not@) a))", 2);
        at("(node a (go 1 (not " + G + " @" + G + ") a))", 2);
        at("(node a (go 1 (not (@a)) a))", 2);
        at("(node a (go 1 (not (@go 1 a)) a))", 2);
        at("(node a (go 1 (not (not @arg)) a))", 2);
        for (int n = 0; n <= 5; n++) {
            String guard = "(not ".repeat(n) + "(arg 0 same 5)" + ")".repeat(n);
            GuardForge x = check.rightText("(node a (go 1 " + guard + " a))");
            check.same(n + " nots of what is true", x.watchCall(1, 5, 0, 0), n % 2 == 0 ? 0 : -1);
            check.same(n + " nots of what is false", x.watchCall(1, 6, 0, 0), n % 2 == 0 ? -1 : 0);
        }
        right("(node a (go 1 " + "(not ".repeat(400) + G + ")".repeat(400) + " a))");
        at("(node a (go 1 " + "(not ".repeat(400) + G + ")".repeat(400) + "@) a))", 2);
        at("(node a (go 1 " + "(not ".repeat(400) + G + ")".repeat(399) + "@a))", 2);
    }

    /** "those of COUNTERS are different, those of NODES too (a COUNTER and a NODE may have the same)" */
    private static void differentNames() {
        at("(node a)(node @a)", 2);
        at(Build.named(23, "(node ", ")") + "(node @a)", 2);
        at(Build.named(23, "(node ", ")") + "(node @w)", 2);
        at("(counter c 2)(counter @c 2)(node a)", 2);
        at(Build.named(5, "(counter ", " 1)") + "(counter @a 1)(node a)", 2);
        at(Build.named(5, "(counter ", " 1)") + "(counter @e 1)(node a)", 2);
        right(Build.named(6, "(counter ", " 1)") + Build.named(24, "(node ", ")"));
        right("(counter a 1)(node a (go 0 (count a less 1) a))");
        // A WAY may go where another one goes.
        right("(node a (go 1 a) (go 1 a))");
    }

    /** "are different": one letter is enough, whichever, and how many there are */
    private static void namesThatAreNearlyTheSame() {
        StringBuilder text = new StringBuilder();
        for (int k = 0; k < 12; k++) {
            text.append("(node ").append("a".repeat(k)).append("b").append("a".repeat(11 - k)).append(")");
        }
        for (int n = 1; n <= 12; n++) {
            text.append("(node ").append("a".repeat(n)).append(")");
        }
        check.same("24 names", check.rightText(text.toString()).lookAt(1), 24);
        text.setLength(0);
        for (int k = 0; k < 12; k++) {
            text.append("(node ").append("z".repeat(k)).append("y").append("z".repeat(11 - k)).append(")");
            text.append("(node ").append("m".repeat(k)).append("n").append("m".repeat(11 - k)).append(")");
        }
        check.same("24 other names", check.rightText(text.toString()).lookAt(1), 24);
        for (int k = 0; k < 12; k++) {
            String name = "z".repeat(k) + "y" + "z".repeat(11 - k);
            at("(node zzzzzzzzzzzz (go 1 @" + name + "))", 5);
            right("(node zzzzzzzzzzzz (go 1 " + name + "))(node " + name + ")");
        }
    }

    /** "a NODE, or a COUNTER, can be used ahead of its place" */
    private static void aheadOfTheirPlace() {
        GuardForge x = check.rightText("(counter c 3 (up 0 (count f same 0)))(counter d 1)(counter e 1)(counter f 1 (up 4))"
                + "(node a (go 0 x) (go 4 a))" + Build.named(22, "(node b", ")") + "(node x (go 0 (count f same 1) a))");
        check.same("to the last node", x.watchCall(0, 0, 0, 0), 1);
        check.same("by a counter further on", x.counterOf(0, true), 1);
        check.same("the counter further on is 0", x.watchCall(0, 0, 0, 0), -1);
    }

    /** "Words that stand behind ( so, any, less, same and more are no NAMES of these." */
    private static void wordsAreNoNames() {
        for (String word : WORDS) {
            at("(node @" + word + ")", 2);
            at("(counter @" + word + " 1)(node a)", 2);
            at("(node a (go 1 @" + word + "))", 2);
            at("(node a (go 1 (count @" + word + " less 1) a))", 2);
            at("(counter c 1 (up 1 (count @" + word + " less 1)))(node a)", 2);
            String longer = word + "x";
            String shorter = word.substring(0, word.length() - 1);
            for (String name : new String[] {longer, "x" + word}) {
                right("(counter " + name + " 1)(node " + name + "(go 1 (count " + name + " less 1) " + name + "))");
            }
            if (!shorter.equals("coun") && !shorter.equals("g")) {
                right("(node " + shorter + ")");
            }
        }
        right("(node coun)(node g)");
    }

    /** "the first one by the place of the TOKEN at which it is seen" */
    private static void firstFaultByPlace() {
        at("(node @7) #", 2);
        at("(node @# 7)", 1);
        at("(node a (go 1 @16 a)) (node abcdefghijklm)", 2);
        at("(node @abcdefghijklm (go 16 a))", 1);
        at("(@a#", 2);
        at("(node a@#(b", 1);
        at("(node a (go @2147483648 (arg 7 less 1) b", 1);
        at("(node a (go 1 (arg @7 less 2147483648) b", 2);
    }

    /** fault 2: "(its (, whatever word stands behind it)" */
    private static void tooManyWhateverStandsBehind() {
        String[] behind = {"", " ", "(", ")", "go", "up", "node", "counter", "arg", "x", "5", "#", "abcdefghijklm"};
        for (String word : behind) {
            at("(counter c 1" + "(up 1)".repeat(4) + "@(" + word, 2);
            at(Build.named(24, "(node ", ")") + "@(" + word, 2);
            at("(node a" + "(go 1 a)".repeat(8) + "@(" + word, 2);
            at("(node a (go 1 " + G.repeat(4) + "@(" + word, 2);
            at("(counter c 1 (zero any " + "(arg 0 less 1)".repeat(4) + "@(" + word, 2);
        }
    }

    /** fault 2: "the word counter .. behind a NODE" */
    private static void counterBehindANode() {
        at("(node a)(@counter c 1)", 2);
        at("(counter b 1)(node a)(@counter c 1)", 2);
        at(Build.named(23, "(node ", ")") + "(@counter c 1)", 2);
        at("(node a)(@counter", 2);
    }

    /** fault 3: "the text ends where a TOKEN has to be (its length)" */
    private static void textEnds() {
        String[] tokens = ("( counter c 3 ( up 1 ( count c less 2 ) ) ( zero any ) ) "
                + "( node a ( go 1 ( not ( arg 0 same 1 ) ) a ) )").split(" ");
        StringBuilder text = new StringBuilder();
        int open = 0;
        for (int n = 0; n < tokens.length - 1; n++) {
            text.append(text.length() == 0 ? "" : " ").append(tokens[n]);
            open += tokens[n].equals("(") ? 1 : tokens[n].equals(")") ? -1 : 0;
            // Between counters and nodes it ends where none has to be, but then there is no NODE.
            int fault = open > 0 ? 3 : 4;
            check.wrongText(text.toString(), fault, text.length());
            check.wrongText(text + " \n ", fault, text.length() + 3);
        }
        right(text + " " + tokens[tokens.length - 1]);
        // Where four G, eight WAYS or four RULES are, there is only one token that can be, and it has to.
        for (String full : new String[] {"(node a (go 1 " + G.repeat(4), "(node a" + "(go 1 a)".repeat(8),
            "(counter c 1" + "(up 1)".repeat(4), "(counter c 1 (up 1" + G.repeat(4)}) {
            check.wrongText(full, 3, full.length());
        }
    }

    /** "Then 4: there is no NODE (the length; so for blanks alone, too)." */
    private static void noNode() {
        check.wrongText("", 4, 0);
        check.wrongText(" ", 4, 1);
        check.wrongText("\n", 4, 1);
        check.wrongText(" \n ".repeat(100), 4, 300);
        check.wrongText("(counter c 1)", 4, 13);
        check.wrongText("(counter c 1)\n\n", 4, 15);
        String six = Build.named(6, "(counter ", " 15 (up any))");
        check.wrongText(six, 4, six.length());
    }

    /** "5: an X or N that there is not (its NAME)." */
    private static void namesThatThereAreNot() {
        at("(node a (go 1 @b))", 5);
        at("(node a)(node b (go any a)(go any @c))", 5);
        at("(counter b 1)(node a (go 1 @b))", 5);
        at("(node b (go 1 (count @b less 1) b))", 5);
        at("(counter c 1 (up 1 (count @d less 1)))(node d)", 5);
        at("(counter c 1 (zero 1 (not (not (count @d less 1)))))(node d)", 5);
        at(Build.named(6, "(counter ", " 1)") + "(node a (go 1 (count f less 1) (count @g less 1) a))", 5);
        at(Build.named(23, "(node ", ")") + "(node x (go 1 x) (go 1 @y))", 5);
        // What was there in a text that was read before is there no more.
        GuardForge x = check.rightText(Build.named(6, "(counter ", " 1)") + Build.named(24, "(node ", ")"));
        check.policyFault(x, "(node a (go 1 b))", 5, 14);
        check.policyFault(x, "(counter a 1)(node a (go 1 (count b less 1) a))", 5, 34);
    }

    /** "6: an ARGUMENT i that C does not have (the NUMBER i; with any each is right)." */
    private static void argumentsThatCallsDoNotHave() {
        for (int c = 0; c <= 15; c++) {
            for (int i = 0; i <= 2; i++) {
                String way = "(node a (go " + c + " (arg @" + i + " less 1) a))";
                String rule = "(counter c 1 (up " + c + " (not (arg @" + i + " more 1))))(node a)";
                if (i < c % 4) {
                    right(way.replace("@", ""));
                    right(rule.replace("@", ""));
                } else {
                    at(way, 6);
                    at(rule, 6);
                }
            }
        }
        for (int i = 0; i <= 2; i++) {
            right("(counter c 1 (up any (arg " + i + " less 1)) (zero any (arg " + i + " less 1)))"
                    + "(node a (go any (arg " + i + " less 1) a))");
        }
    }

    /** "Then, in the order of the text: 5 .. 6" */
    private static void orderOfTheText() {
        at("(node a (go 1 (count @c less 1) (arg 1 less 1) b))", 5);
        at("(node a (go 1 (arg @1 less 1) (count c less 1) b))", 6);
        at("(node a (go 1 (arg 0 less 1) (arg @1 less 1) b) (go 1 (count c less 1) a))", 6);
        at("(node a (go 1 @b) (go 1 (arg 1 less 1) a))", 5);
        at("(counter c 1 (up 1 (arg @2 less 1)))(node a (go 1 b))", 6);
        at("(counter c 1 (up 1) (zero 1 (count @d less 1)))(node a (go 0 (arg 0 less 1) b))", 5);
        at("(node a (go 1 a))(node b (go 0 (arg @0 less 1) c))(node d (go 1 e))", 6);
    }

    /** "Then 4 .. Then, in the order of the text: 5 .. 6 .. Then 7 .. else 8 .. (the length, both)" */
    private static void whichFaultIsFirst() {
        // 1, 2 and 3 are ahead of 4, 5 and 6, wherever they are.
        at("(counter c 1 (up 1 (count d less 1)))@#", 1);
        at("(node a (go 1 b))@#", 1);
        at("(node a (go 1 b))@)", 2);
        check.wrongText("(node a (go 1 b))(", 3, 18);
        check.wrongText("(node a (go 0 (arg 0 less 1) a)", 3, 31);
        // 4 is ahead of 5 and 6.
        check.wrongText("(counter c 1 (up 1 (count d less 1)))", 4, 37);
        check.wrongText("(counter c 1 (up 1 (arg 1 less 1)))", 4, 35);
        // 5 and 6 are ahead of 7 and 8, 7 is ahead of 8.
        String letters = Policies.letters(513);
        String sets = Policies.sets(64);
        check.wrongText(letters, 7, letters.length());
        check.wrongText(letters + "\n ", 7, letters.length() + 2);
        check.wrongText(sets, 8, sets.length());
        check.wrongText(sets + "  \n", 8, sets.length() + 3);
        at(letters + "(node y (go 1 @z))", 5);
        at(letters + "(node y (go 1 (arg @1 less 5) y))", 6);
        at(sets + "(node y (go 1 @z))", 5);
        at(sets + "(node y (go 1 (arg @1 less 5) y))", 6);
        String fewer = Policies.setsAndLetters(1);
        check.wrongText(fewer, 8, fewer.length());
        String both = Policies.setsAndLetters(2);
        check.wrongText(both, 7, both.length());
    }
}
