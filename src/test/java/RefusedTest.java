import java.nio.charset.StandardCharsets;
import java.util.ArrayList;
import java.util.Arrays;
import java.util.LinkedHashMap;
import java.util.List;
import java.util.Map;
import java.util.function.Consumer;
import java.util.function.ToLongFunction;

/**
 * "What answers false, NONE or a fault changes nothing but what is said.": for every call that can be refused, in
 * several states of an object, all that it answers is the same ahead of the call and behind it.
 */
public final class RefusedTest {
    private static final Check check = new Check("RefusedTest");
    private static final int LOW = Integer.MIN_VALUE;
    private static final int HIGH = Integer.MAX_VALUE;
    private static final String POLICY = "(counter c 3 (up 1) (zero 0))(counter d 2 (up any (arg 0 more 1)))"
            + "(node a (go 1 (arg 0 less 9) b) (go 0 a))(node b (go 1 (count c less 3) b) (go 0 a) (go 2 c))(node c (go 4 c))";
    private static final byte[] PROGRAM = Build.program(
            Build.function(0, 2, 2, 1, "push 3, new, store 1, push 5, host 1, host 0, add, call 1, store 0, load 0, return, return",
                    Build.handler(3, 8, 11), Build.handler(7, 8, 11, 4)),
            Build.function(1, 2, 0, 1, "load 0, ifnot 4, load 0, return, push 7, host 1, return"));
    private static final byte[] GUARDED = Build.program(Build.function(0, 0, 0, 1, "push 5, guard 1, host 1, return"));

    /** A call and what it answers. */
    private static final class Refused {
        final String name;
        final long due;
        final ToLongFunction<GuardForge> call;

        Refused(String name, long due, ToLongFunction<GuardForge> call) {
            this.name = name;
            this.due = due;
            this.call = call;
        }
    }

    public static void main(String[] args) {
        Map<String, Consumer<GuardForge>> states = states();
        for (Map.Entry<String, Consumer<GuardForge>> state : states.entrySet()) {
            alwaysRefused(state.getKey(), state.getValue());
            textsWithFaults(state.getKey(), state.getValue());
            bytesWithFaults(state.getKey(), state.getValue());
        }
        withoutProgram(states);
        withoutForged(states);
        withGuard(states);
        tooLongToForge();
        mostAnswers();
        nowhere(states);
        noRoom();
        turnNothing(states);
        oneBehindTheOther(states);
        check.end();
    }

    private static Map<String, Consumer<GuardForge>> states() {
        Map<String, Consumer<GuardForge>> states = new LinkedHashMap<>();
        states.put("new", x -> { });
        states.put("policy", x -> {
            Check.policy(x, POLICY);
            x.watchCall(1, 5, 0, 0);
            x.addAnswer(4);
        });
        states.put("program", x -> {
            Check.program(x, PROGRAM);
            x.addAnswer(4);
            x.addAnswer(-4);
            x.runIt(false, 40);
        });
        states.put("forged", x -> {
            Check.policy(x, POLICY);
            Check.program(x, PROGRAM);
            x.forgeIt();
            x.addAnswer(4);
            x.saveProgram(true);
            x.runIt(true, 40);
            x.watchCall(1, 5, 0, 0);
            x.watchCall(1, 6, 0, 0);
            x.cutBytes(5);
        });
        states.put("guarded", x -> {
            Check.policy(x, POLICY);
            Check.program(x, GUARDED);
            x.saveProgram(false);
            x.runIt(false, 3);
        });
        states.put("behind a fault", x -> {
            Check.policy(x, POLICY);
            Check.program(x, PROGRAM);
            x.forgeIt();
            x.runIt(true, 12);
            Check.policy(x, "(node a (go 16 a))");
        });
        return states;
    }

    private static long bit(boolean answer) {
        return answer ? 1 : 0;
    }

    private static void same(String name, Consumer<GuardForge> calls, Refused refused, boolean isLoad) {
        Map<String, Long> ahead = Look.at(calls);
        unchanged(name, ahead, calls, refused, isLoad);
    }

    /** Behind the call all is as it was ahead of it, but for what is told of a fault. */
    private static void unchanged(String name, Map<String, Long> ahead, Consumer<GuardForge> calls, Refused refused, boolean isLoad) {
        GuardForge x = new GuardForge();
        calls.accept(x);
        check.same(name + ": " + refused.name, refused.call.applyAsLong(x), refused.due);
        Map<String, Long> behind = Look.at(y -> {
            calls.accept(y);
            refused.call.applyAsLong(y);
        });
        sameAnswers(name + ", behind " + refused.name, behind, ahead, isLoad);
        check.same(name + ": the fault of " + refused.name, behind.get("lookAt(11)"), isLoad ? refused.due : ahead.get("lookAt(11)"));
    }

    /** All that is answered is as due; what is told of a fault, only if there was none to tell of. */
    private static void sameAnswers(String name, Map<String, Long> answers, Map<String, Long> due, boolean faultIsTold) {
        check.same(name + ": how much there is to look at", answers.size(), due.size());
        for (Map.Entry<String, Long> one : due.entrySet()) {
            boolean told = faultIsTold && (one.getKey().equals("lookAt(11)") || one.getKey().equals("lookAt(12)"));
            if (!told) {
                check.same(name + ": " + one.getKey(), answers.getOrDefault(one.getKey(), -99L), one.getValue());
            }
        }
    }

    /** Calls that are refused whatever there is. */
    private static void alwaysRefused(String name, Consumer<GuardForge> calls) {
        List<Refused> all = new ArrayList<>();
        for (int n : new int[] {0, 9, -1, LOW, HIGH}) {
            all.add(new Refused("giveBytes(.., " + n + ")", 0, x -> bit(x.giveBytes(-1L, n))));
        }
        for (int n : new int[] {-1, LOW, HIGH, 8193}) {
            all.add(new Refused("cutBytes(" + n + ")", 0, x -> bit(x.cutBytes(n))));
            all.add(new Refused("pokeByte(" + n + ", 7)", 0, x -> bit(x.pokeByte(n, 7))));
        }
        all.add(new Refused("cutBytes(one more)", 0, x -> bit(x.cutBytes(x.lookAt(9) + 1))));
        all.add(new Refused("pokeByte(one behind, 7)", 0, x -> bit(x.pokeByte(x.lookAt(9), 7))));
        for (int fuel : new int[] {-1, 20001, LOW, HIGH}) {
            all.add(new Refused("runIt(false, " + fuel + ")", -1, x -> x.runIt(false, fuel)));
            all.add(new Refused("runIt(true, " + fuel + ")", -1, x -> x.runIt(true, fuel)));
        }
        for (int number : new int[] {-1, 16, LOW, HIGH}) {
            all.add(new Refused("watchCall(" + number + ")", -1, x -> x.watchCall(number, 1, 2, 3)));
        }
        for (int wrong : new int[] {-1, 4096, LOW, HIGH}) {
            all.add(new Refused("questions with " + wrong, 0, x -> questions(x, wrong)));
        }
        Map<String, Long> ahead = Look.at(calls);
        for (Refused one : all) {
            unchanged(name, ahead, calls, one, false);
        }
    }

    /** How many of the questions with a number that there is not are answered otherwise than by 0 or NONE. */
    private static long questions(GuardForge x, int wrong) {
        long others = 0;
        others += x.endOf(wrong) == -1 ? 0 : 1;
        others += x.traceAt(wrong, 0) == 0 && x.traceAt(0, wrong) == 0 ? 0 : 1;
        others += x.counterOf(wrong, true) == -1 && x.counterOf(wrong, false) == -1 ? 0 : 1;
        others += x.wayOf(wrong, 0) == -1 && x.wayOf(0, wrong) == -1 ? 0 : 1;
        others += x.letterOf(wrong, 0) == 0 && x.letterOf(3, wrong) == 0 ? 0 : 1;
        others += x.byteOf(wrong, true) == -1 && x.byteOf(wrong, false) == -1 ? 0 : 1;
        others += x.lookAt(wrong) == -1 ? 0 : 1;
        for (boolean forged : new boolean[] {false, true}) {
            others += x.codeOf(forged, wrong, 0, 0) == 0 && x.codeOf(forged, 0, wrong, 2) == 0 ? 0 : 1;
            others += x.codeOf(forged, 0, 0, wrong) == 0 ? 0 : 1;
            others += x.mayOf(forged, wrong, 0) == 0 && x.mayOf(forged, 0, wrong) == 0 ? 0 : 1;
            others += x.functionOf(forged, wrong, 0) == -1 && x.functionOf(forged, 0, wrong) == -1 ? 0 : 1;
        }
        return others;
    }

    /** Promise 6: "else its fault", each of the eight. */
    private static void textsWithFaults(String name, Consumer<GuardForge> calls) {
        String counters = Build.named(6, "(counter ", " 15 (up any) (zero any))");
        String[] texts = {counters + "(node a (go any a))(node b (go any a)) #", counters + "(node a (go any a))(node a)",
            counters + "(node a (go any a)", counters, counters + "(node a (go any z))", counters + "(node a (go 1 (arg 2 less 1) a))",
            Policies.letters(513), Policies.sets(64)};
        for (int fault = 1; fault <= 8; fault++) {
            // The longest texts are looked at in one state alone, so that it does not take long.
            if (fault >= 7 && !name.equals("forged")) {
                continue;
            }
            byte[] row = texts[fault - 1].getBytes(StandardCharsets.ISO_8859_1);
            Consumer<GuardForge> given = calls.andThen(x -> Check.give(x, row));
            same(name, given, new Refused("loadPolicy() with fault " + fault, fault, GuardForge::loadPolicy), true);
        }
    }

    /** Promise 7: "else its fault", each of the eight. */
    private static void bytesWithFaults(String name, Consumer<GuardForge> calls) {
        byte[] first = Build.function(0, 3, 6, 1, "push 9, jump 3, return, host 1, guard 0, host 0, return", Build.handler(0, 4, 3));
        byte[][] rows = {Build.program(first, Build.function(4, 4, 15, 2, "load 0, return")),
            Build.program(first), Build.program(first, Build.function(0, 0, 0, 0, "host 16")),
            Build.join(Build.program(first), new byte[3]),
            Build.program(first, Build.function(0, 0, 0, 0, "push 1, push 2, swap, pop, pop, pop, return")),
            Build.program(first, Build.function(0, 0, 0, 0, Build.times(17, "push 1", "return"))),
            Build.program(first, Build.function(0, 0, 0, 0, "push 1, jump 0")),
            Build.program(first, Build.function(0, 0, 0, 0, "push 1, pop"))};
        rows[0] = Arrays.copyOf(rows[0], rows[0].length - 1);
        rows[1][2] = 2;
        for (int fault = 1; fault <= 8; fault++) {
            byte[] row = rows[fault - 1];
            Consumer<GuardForge> given = calls.andThen(x -> Check.give(x, row));
            same(name, given, new Refused("loadProgram() with fault " + fault, fault, GuardForge::loadProgram), true);
        }
    }

    /** Promises 8, 9, 10 and 13: "NONE if there is none such", "NONE if there is no PROGRAM". */
    private static void withoutProgram(Map<String, Consumer<GuardForge>> states) {
        for (String name : new String[] {"new", "policy"}) {
            Consumer<GuardForge> calls = states.get(name);
            same(name, calls, new Refused("saveProgram(false)", -1, x -> x.saveProgram(false)), false);
            same(name, calls, new Refused("forgeIt()", -1, GuardForge::forgeIt), false);
            same(name, calls, new Refused("certifyIt(false)", -1, x -> x.certifyIt(false)), false);
            same(name, calls, new Refused("runIt(false, 10)", -1, x -> x.runIt(false, 10)), false);
            same(name, calls, new Refused("runIt(false, 0)", -1, x -> x.runIt(false, 0)), false);
        }
    }

    /** The same of what was FORGED. */
    private static void withoutForged(Map<String, Consumer<GuardForge>> states) {
        for (String name : new String[] {"new", "policy", "program", "guarded"}) {
            Consumer<GuardForge> calls = states.get(name);
            same(name, calls, new Refused("saveProgram(true)", -1, x -> x.saveProgram(true)), false);
            same(name, calls, new Refused("certifyIt(true)", -1, x -> x.certifyIt(true)), false);
            same(name, calls, new Refused("runIt(true, 10)", -1, x -> x.runIt(true, 10)), false);
            same(name, calls, new Refused("runIt(true, 20000)", -1, x -> x.runIt(true, 20000)), false);
        }
    }

    /** Promise 9: "NONE if .. it has a GUARD". */
    private static void withGuard(Map<String, Consumer<GuardForge>> states) {
        same("guarded", states.get("guarded"), new Refused("forgeIt()", -1, GuardForge::forgeIt), false);
    }

    /** Promise 9: "-2 if a FUNCTION would have more than 400 INSTRUCTIONS". */
    private static void tooLongToForge() {
        Consumer<GuardForge> calls = x -> {
            Check.policy(x, "(counter c 1(up 0))(node a)");
            Check.program(x, Build.program(Build.function(0, 0, 0, 0, "return, host 0"),
                    Build.function(0, 0, 0, 0, Build.times(201, "return", Build.times(99, "host 0", "host 0")))));
            x.saveProgram(false);
            x.runIt(false, 10);
        };
        same("too long", calls, new Refused("forgeIt()", -2, GuardForge::forgeIt), false);
    }

    /** Promise 11: "NONE if there are 256". */
    private static void mostAnswers() {
        Consumer<GuardForge> calls = x -> {
            Check.program(x, Build.program(Build.function(0, 0, 0, 1, "host 0, return")));
            for (int n = 0; n < 256; n++) {
                x.addAnswer(n + 7);
            }
            x.runIt(false, 10);
        };
        same("256 answers", calls, new Refused("addAnswer(1)", -1, x -> x.addAnswer(1)), false);
    }

    /** Promise 18: "NONE if .. it goes nowhere (THE WATCH stays)". */
    private static void nowhere(Map<String, Consumer<GuardForge>> states) {
        for (String name : new String[] {"policy", "forged"}) {
            for (int number : new int[] {3, 4, 15}) {
                same(name, states.get(name), new Refused("watchCall(" + number + ")", -1, x -> x.watchCall(number, 5, 5, 5)), false);
            }
        }
        Consumer<GuardForge> full = states.get("policy").andThen(x -> {
            x.watchCall(1, 5, 0, 0);
            x.watchCall(1, 5, 0, 0);
        });
        same("c is 3", full, new Refused("watchCall(1)", -1, x -> x.watchCall(1, 5, 0, 0)), false);
    }

    /** Promise 2: "or there is no room", which takes more than the 512 calls that are promised. */
    private static void noRoom() {
        for (int left = 0; left < 8; left++) {
            GuardForge x = new GuardForge();
            Check.give(x, new byte[8192 - left]);
            for (int n = left + 1; n <= 8; n++) {
                check.same("giveBytes of " + n + " with room for " + left, x.giveBytes(-1L, n), false);
                check.same("how many", x.lookAt(9), 8192 - left);
                check.same("none behind", x.byteOf(8192 - left, true), -1);
                check.same("the last stays", x.byteOf(8191 - left, true), 0);
            }
            check.same("giveBytes with room", left == 0 || x.giveBytes(-1L, left), true);
            check.same("full", x.lookAt(9), 8192);
            check.same("the last", x.byteOf(8191, true), left == 0 ? 0 : 255);
            check.same("none behind", x.byteOf(8192, true), -1);
        }
    }

    /** Promise 5: "(none, if there are none)". */
    private static void turnNothing(Map<String, Consumer<GuardForge>> states) {
        Consumer<GuardForge> calls = states.get("policy");
        Map<String, Long> ahead = Look.at(calls.andThen(x -> x.cutBytes(0)));
        Map<String, Long> behind = Look.at(calls.andThen(GuardForge::turnBytes));
        sameAnswers("turnBytes of none", behind, ahead, false);
    }

    /** Many that are refused, one behind the other, and what is right then is as without them. */
    private static void oneBehindTheOther(Map<String, Consumer<GuardForge>> states) {
        Consumer<GuardForge> all = x -> {
            Check.policy(x, "(counter c 9 (up any (count c less");
            Check.program(x, Build.main("load 0, if 3, load 4, jump 3, return", Build.handler(0, 2, 3)));
            x.runIt(true, 50000);
            Check.policy(x, "(counter c 9 (up any))(node a (go any (arg 0 same 7) b))");
            Check.program(x, Build.main("push 1, jump 0, host 1, guard 2, push 1"));
            x.watchCall(16, 1, 1, 1);
            x.cutBytes(0);
            Check.give(x, PROGRAM);
            x.loadPolicy();
        };
        for (Map.Entry<String, Consumer<GuardForge>> state : states.entrySet()) {
            Map<String, Long> ahead = Look.at(state.getValue().andThen(x -> Check.give(x, PROGRAM)));
            Map<String, Long> behind = Look.at(state.getValue().andThen(all));
            sameAnswers(state.getKey() + ", behind many", behind, ahead, true);
            // Then what is right is loaded, and all of that is as on a new object.
            Consumer<GuardForge> right = states.get("forged");
            Map<String, Long> fresh = Look.at(right);
            Map<String, Long> used = Look.at(state.getValue().andThen(all).andThen(GuardForge::dropAnswers).andThen(right));
            sameAnswers(state.getKey() + ", loaded again", used, fresh, false);
        }
    }
}
