import java.util.ArrayList;
import java.util.Arrays;
import java.util.List;
import java.util.Random;

/**
 * "MAY of each INSTRUCTION, ENTRY, EXIT and ALL of each FUNCTION are the least sets of STATES (so none for what is never come
 * to) for which: ..", over policies and programs that are made up: each sentence is done as it stands, again and again,
 * until nothing changes, and what comes of it is compared. So are GUARDED, NEEDS and CERTIFIED. The seeds are fixed.
 */
public final class RandomMayTest {
    private static final Check check = new Check("RandomMayTest");
    private static final List<Integer> THROWING = Arrays.asList(9, 10, 21, 22, 23, 25, 28);

    /** One function as it was made up: rows of INSTRUCTION and what stands behind, and of FROM, TO, TARGET. */
    private static final class Function {
        final List<int[]> code = new ArrayList<>();
        final List<int[]> handlers = new ArrayList<>();
        /** Where nothing is on the stack, so that jumps can go there, and where one INT is, for handlers. */
        final List<Integer> withNothing = new ArrayList<>();
        final List<Integer> withOne = new ArrayList<>();

        void add(int op, int operand) {
            code.add(new int[] {op, operand});
        }

        byte[] bytes() {
            StringBuilder words = new StringBuilder();
            for (int[] one : code) {
                words.append(words.length() == 0 ? "" : ", ").append(Build.NAMES.get(one[0]));
                words.append(Build.width(one[0]) == 0 ? "" : " " + one[1]);
            }
            byte[][] rows = new byte[handlers.size()][];
            for (int h = 0; h < rows.length; h++) {
                int[] handler = handlers.get(h);
                rows[h] = Build.handler(handler[0], handler[1], handler[2]);
            }
            return Build.function(0, 0, 0, 0, words.toString(), rows);
        }

        /** "HOST c is GUARDED if GUARD c is just ahead of it, and no jump and no HANDLER goes to it" */
        boolean isGuarded(int i) {
            boolean guarded = i > 0 && code.get(i)[0] == 26 && code.get(i - 1)[0] == 29 && code.get(i - 1)[1] == code.get(i)[1];
            for (int[] one : code) {
                guarded &= one[0] < 18 || one[0] > 20 || one[1] != i;
            }
            for (int[] handler : handlers) {
                guarded &= handler[2] != i;
            }
            return guarded;
        }
    }

    private final Function[] functions;
    /** Of call c and state p: where its letters lead to, and whether one of them leads nowhere or elsewhere. */
    private final long[][] reach;
    private final boolean[][] moves;
    private final long[][] may;
    private final long[] entry;
    private final long[] exit;
    private final long[] all;
    private boolean changed;

    private RandomMayTest(Function[] functions, String text) {
        this.functions = functions;
        int states = check.with(text).lookAt(4);
        reach = new long[16][states];
        moves = new boolean[16][states];
        for (int p = 0; p < states; p++) {
            readWays(check.with(text), p);
        }
        may = new long[functions.length][];
        for (int f = 0; f < functions.length; f++) {
            may[f] = new long[functions[f].code.size()];
        }
        entry = new long[functions.length];
        exit = new long[functions.length];
        all = new long[functions.length];
    }

    private void readWays(GuardForge x, int p) {
        int letters = x.lookAt(2);
        for (int letter = 0; letter < letters; letter++) {
            int c = x.letterOf(letter, 0);
            int to = x.wayOf(p, letter);
            reach[c][p] |= to < 0 ? 0 : 1L << to;
            moves[c][p] |= to != p;
        }
    }

    private long with(long set, long more) {
        changed |= (more & ~set) != 0;
        return set | more;
    }

    private void settle() {
        do {
            changed = false;
            entry[0] = with(entry[0], 1);
            for (int f = 0; f < functions.length; f++) {
                may[f][0] = with(may[f][0], entry[f]);
                for (int i = 0; i < may[f].length; i++) {
                    say(f, i, functions[f].code.get(i)[0], functions[f].code.get(i)[1]);
                }
            }
        } while (changed);
    }

    /** What the sentences say of one INSTRUCTION. */
    private void say(int f, int i, int op, int operand) {
        long after = may[f][i];
        if (op == 29 || op == 26 && !functions[f].isGuarded(i)) {
            after = 0;
            for (int p = 0; p < reach[operand].length; p++) {
                after |= (may[f][i] >> p & 1) == 1 ? reach[operand][p] : 0;
            }
        }
        if (op == 25) {
            after = may[f][i] != 0 ? exit[operand] : 0;
            entry[operand] = with(entry[operand], may[f][i]);
        }
        if (op >= 18 && op <= 20) {
            may[f][operand] = with(may[f][operand], after);
        }
        if (op != 18 && op != 27 && op != 28 && i + 1 < may[f].length) {
            may[f][i + 1] = with(may[f][i + 1], after);
        }
        if (op == 27) {
            exit[f] = with(exit[f], may[f][i]);
        }
        long allOfCalled = op == 25 && may[f][i] != 0 ? all[operand] : 0;
        all[f] = with(all[f], may[f][i] | allOfCalled);
        for (int[] handler : functions[f].handlers) {
            if (i >= handler[0] && i < handler[1] && THROWING.contains(op)) {
                may[f][handler[2]] = with(may[f][handler[2]], may[f][i] | allOfCalled);
            }
        }
    }

    /** How many INSTRUCTIONS have a STATE. */
    private int compare(GuardForge x, boolean[] ruled) {
        int first = 0;
        int reached = 0;
        for (int f = functions.length - 1; f >= 0; f--) {
            for (int i = may[f].length - 1; i >= 0; i--) {
                int[] one = functions[f].code.get(i);
                boolean needs = one[0] == 26 && ruled[one[1]];
                for (int p = 0; p < reach[0].length && one[0] == 26; p++) {
                    needs |= (may[f][i] >> p & 1) == 1 && moves[one[1]][p];
                }
                boolean guarded = functions[f].isGuarded(i);
                boolean host = i + 1 < may[f].length && functions[f].isGuarded(i + 1);
                first = needs && !guarded || one[0] == 29 && !host ? 1 + 512 * f + i : first;
                check.same("mayOf(" + f + ", " + i + ")", x.mayOf(false, f, i), may[f][i]);
                if (one[0] == 26 || one[0] == 29) {
                    check.same("guarded " + f + " " + i, x.codeOf(false, f, i, 4), guarded ? 1 : 0);
                    check.same("needs " + f + " " + i, x.codeOf(false, f, i, 5), needs ? 1 : 0);
                }
                reached += may[f][i] != 0 ? 1 : 0;
            }
        }
        check.same("certified", x.certifyIt(false), first);
        return reached;
    }

    /** Which calls there is a RULE of, as the text has them. */
    private static boolean[] ruled(String text) {
        boolean[] ruled = new boolean[16];
        for (int c = 0; c < 16; c++) {
            ruled[c] = text.matches("(?s).*\\((up|zero) (any|" + c + ")[ )].*");
        }
        return ruled;
    }

    /** Four INSTRUCTIONS that begin and end with nothing on the stack, or end the function; jumps get their targets later. */
    private static void block(Function into, Random random, int functions) {
        int at = into.code.size();
        int[][][] blocks = {
            {{26, 0}, {1, 0}, {0, 0}, {1, 0}},
            {{0, 2}, {26, 1}, {1, 0}, {18, at + 4}},
            {{29, 0}, {26, 0}, {1, 0}, {18, -1}},
            {{0, 2}, {29, 1}, {26, 1}, {1, 0}},
            {{25, random.nextInt(functions)}, {0, 1}, {1, 0}, {18, -1}},
            {{26, 4}, {26, 0}, {9, 0}, {1, 0}},
            {{0, 7}, {2, 0}, {10, 0}, {28, 0}},
            {{26, 0}, {0, 1}, {11, 0}, {19, -1}},
            {{27, 0}, {26, 0}, {1, 0}, {27, 0}},
            {{0, 3}, {21, 0}, {24, 0}, {1, 0}},
            {{29, 4}, {26, 4}, {1, 0}, {25, random.nextInt(functions)}}};
        // The first block does not end the function.
        int kind = random.nextInt(at == 0 ? 6 : blocks.length);
        for (int[] one : blocks[kind]) {
            into.add(one[0], one[1]);
        }
        into.withNothing.add(at);
        if (kind == 2 || kind == 10) {
            into.withNothing.add(at + 1);
        }
        if (kind == 0 || kind == 3) {
            into.withOne.add(at + (kind == 0 ? 1 : 2));
        }
    }

    private static Function someFunction(Random random, int functions) {
        Function made = new Function();
        int blocks = 2 + random.nextInt(6);
        for (int b = 0; b < blocks; b++) {
            block(made, random, functions);
        }
        made.withNothing.add(made.code.size());
        made.add(27, 0);
        made.withOne.add(made.code.size());
        made.add(1, 0);
        made.add(27, 0);
        for (int[] one : made.code) {
            if (one[0] >= 18 && one[0] <= 20 && one[1] < 0) {
                one[1] = made.withNothing.get(random.nextInt(made.withNothing.size()));
            }
        }
        for (int n = random.nextInt(3); n > 0; n--) {
            int from = random.nextInt(made.code.size());
            int to = from + 1 + random.nextInt(made.code.size() - from);
            made.handlers.add(new int[] {from, to, made.withOne.get(random.nextInt(made.withOne.size()))});
        }
        return made;
    }

    /** From most nodes calls 0, 1 and 4 go somewhere, so that much of a program is come to. */
    private static String someText(Random random) {
        StringBuilder text = new StringBuilder(random.nextInt(4) > 0 ? "" : "(counter z 3 (up " + random.nextInt(5) + "))");
        int nodes = 1 + random.nextInt(6);
        for (int n = 0; n < nodes; n++) {
            text.append("(node ").append((char) ('a' + n));
            for (String call : new String[] {"0", "1", "1 (arg 0 less 3)", "4", "0", "any"}) {
                if (random.nextInt(3) > 0 && !call.equals("any") || random.nextInt(6) == 0) {
                    text.append(" (go ").append(call).append(' ').append((char) ('a' + random.nextInt(nodes))).append(')');
                }
            }
            text.append(")\n");
        }
        return text.toString();
    }

    public static void main(String[] args) {
        int programs = 0;
        int reached = 0;
        for (int seed = 1; seed <= 1000; seed++) {
            Random random = new Random(seed);
            String text = someText(random);
            Function[] functions = new Function[1 + random.nextInt(4)];
            byte[][] rows = new byte[functions.length][];
            for (int f = 0; f < functions.length; f++) {
                functions[f] = someFunction(random, functions.length);
                rows[f] = functions[f].bytes();
            }
            if (Check.policy(new GuardForge(), text) == 0) {
                GuardForge x = check.with(text, Build.program(rows));
                RandomMayTest due = new RandomMayTest(functions, text);
                due.settle();
                reached += due.compare(x, ruled(text));
                programs++;
            }
        }
        check.same("enough programs", programs > 900, true);
        check.same("enough instructions that are come to", reached > 9 * programs, true);
        check.end();
    }
}
