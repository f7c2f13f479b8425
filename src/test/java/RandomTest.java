import java.util.ArrayList;
import java.util.Arrays;
import java.util.HashMap;
import java.util.List;
import java.util.Map;
import java.util.Random;

/**
 * Promises 9, 10, 13, 18, 19, 22 over many policies and programs: what has to hold whatever they are.
 * The seeds are fixed, so every run is the same.
 */
public final class RandomTest {
    private static final Check check = new Check("RandomTest");

    /** A policy as it was made up, and what it says of traces, done by nodes and not by states. */
    private static final class Simple {
        final List<int[]> ways = new ArrayList<>();
        final List<int[]> rules = new ArrayList<>();
        int nodes;
        int counters;
        int[] most;
        int[] now;
        boolean[] there;
        String text;

        void begin() {
            now = new int[counters];
            there = new boolean[nodes];
            there[0] = true;
        }

        /** Row: owner, call (16 any), target or up, then for each guard subject, kind, number, not. */
        private boolean holds(int[] row, int call, int[] arguments) {
            if (row[1] != 16 && row[1] != call) {
                return false;
            }
            for (int g = 3; g < row.length; g += 4) {
                boolean is = false;
                if (row[g] >= 3 || row[g] < call % 4) {
                    int v = row[g] >= 3 ? now[row[g] - 3] : arguments[row[g]];
                    is = row[g + 1] == 0 ? v < row[g + 2] : row[g + 1] == 1 ? v == row[g + 2] : v > row[g + 2];
                }
                if (is == (row[g + 3] == 1)) {
                    return false;
                }
            }
            return true;
        }

        boolean step(int call, int[] arguments) {
            boolean[] next = new boolean[nodes];
            boolean any = false;
            for (int[] way : ways) {
                if (there[way[0]] && holds(way, call, arguments)) {
                    next[way[2]] = true;
                    any = true;
                }
            }
            if (!any) {
                return false;
            }
            int[] then = now.clone();
            boolean[] done = new boolean[counters];
            for (int[] rule : rules) {
                if (!done[rule[0]] && holds(rule, call, arguments)) {
                    done[rule[0]] = true;
                    then[rule[0]] = rule[2] == 0 ? 0 : Math.min(most[rule[0]], now[rule[0]] + 1);
                }
            }
            now = then;
            there = next;
            return true;
        }
    }

    public static void main(String[] args) {
        int policies = 0;
        int programs = 0;
        for (int seed = 1; seed <= 1500; seed++) {
            Random random = new Random(seed);
            Simple simple = simplePolicy(random);
            GuardForge x = new GuardForge();
            if (Check.policy(x, simple.text) != 0) {
                continue;
            }
            policies++;
            watched(x, simple, random);
            fewest(x);
            GuardForge y = new GuardForge();
            Check.policy(y, simple.text);
            if (Check.program(y, randomProgram(random)) == 0) {
                programs++;
                forged(y, simple, random);
            }
        }
        for (int seed = 1; seed <= 300; seed++) {
            reused(new Random(-seed));
        }
        check.same("enough policies", policies > 1000, true);
        check.same("enough programs", programs > 500, true);
        check.end();
    }

    /** An object that has been used answers as a new one does. */
    private static void reused(Random random) {
        GuardForge old = new GuardForge();
        for (int round = 0; round < 4; round++) {
            GuardForge fresh = new GuardForge();
            String text = simplePolicy(random).text;
            byte[] row = randomProgram(random);
            if (Check.policy(fresh, text) != 0 || Check.program(fresh, row) != 0) {
                Check.policy(old, text.substring(0, text.length() / 2));
                Check.program(old, Arrays.copyOf(row, row.length / 2));
                continue;
            }
            check.same("used: loadPolicy", Check.policy(old, text), 0);
            check.same("used: loadProgram", Check.program(old, row), 0);
            for (int which = 0; which < 14; which++) {
                // The written bytes are of earlier rounds.
                check.same("used: lookAt " + which, old.lookAt(which), which == 10 ? old.lookAt(10) : fresh.lookAt(which));
            }
            check.same("used: certifyIt", old.certifyIt(false), fresh.certifyIt(false));
            check.same("used: forgeIt", old.forgeIt(), fresh.forgeIt());
            check.same("used: certifyIt forged", old.certifyIt(true), fresh.certifyIt(true));
            sameCode(old, fresh, random);
            boolean forged = random.nextBoolean();
            check.same("used: runIt", old.runIt(forged, 60), fresh.runIt(forged, 60));
            for (int what = 0; what < 8; what++) {
                check.same("used: endOf " + what, old.endOf(what), fresh.endOf(what));
            }
            check.same("used: counterOf", old.counterOf(0, false), fresh.counterOf(0, false));
            check.same("used: saveProgram", old.saveProgram(forged), fresh.saveProgram(forged));
        }
    }

    private static void sameCode(GuardForge old, GuardForge fresh, Random random) {
        for (int n = 0; n < 12; n++) {
            int f = random.nextInt(fresh.lookAt(5));
            int i = random.nextInt(fresh.functionOf(n % 2 == 0, f, 3));
            int what = random.nextInt(6);
            check.same("used: codeOf", old.codeOf(n % 2 == 0, f, i, what), fresh.codeOf(n % 2 == 0, f, i, what));
            check.same("used: mayOf", old.mayOf(n % 2 == 0, f, i), fresh.mayOf(n % 2 == 0, f, i));
            int state = random.nextInt(fresh.lookAt(4));
            int letter = random.nextInt(fresh.lookAt(2));
            check.same("used: wayOf", old.wayOf(state, letter), fresh.wayOf(state, letter));
        }
    }

    private static int[] guards(Random random, int call, int counters, StringBuilder text) {
        int count = random.nextInt(3);
        int[] row = new int[4 * count];
        int used = 0;
        for (int g = 0; g < count; g++) {
            int arguments = call == 16 ? 3 : call % 4;
            if (arguments + counters == 0) {
                break;
            }
            int pick = random.nextInt(arguments + counters);
            int subject = pick < arguments ? pick : 3 + pick - arguments;
            int kind = random.nextInt(3);
            int number = random.nextInt(5) - 1;
            boolean not = random.nextInt(4) == 0;
            text.append(not ? " (not (" : " (").append(subject < 3 ? "arg " + subject : "count " + "uvwxyz".charAt(subject - 3));
            text.append(kind == 0 ? " less " : kind == 1 ? " same " : " more ").append(number).append(not ? "))" : ")");
            row[used] = subject;
            row[used + 1] = kind;
            row[used + 2] = number;
            row[used + 3] = not ? 1 : 0;
            used += 4;
        }
        return Arrays.copyOf(row, used);
    }

    private static int[] clause(int owner, int call, int to, int[] guards) {
        int[] row = new int[3 + guards.length];
        row[0] = owner;
        row[1] = call;
        row[2] = to;
        System.arraycopy(guards, 0, row, 3, guards.length);
        return row;
    }

    private static int someCall(Random random) {
        return random.nextInt(8) == 0 ? 16 : random.nextInt(4);
    }

    private static Simple simplePolicy(Random random) {
        Simple made = new Simple();
        StringBuilder text = new StringBuilder();
        made.nodes = 1 + random.nextInt(5);
        made.counters = random.nextInt(3);
        made.most = new int[made.counters];
        for (int k = 0; k < made.counters; k++) {
            made.most[k] = 1 + random.nextInt(4);
            text.append("(counter ").append("uvwxyz".charAt(k)).append(' ').append(made.most[k]);
            for (int n = random.nextInt(3); n > 0; n--) {
                int call = someCall(random);
                int up = random.nextInt(3) == 0 ? 0 : 1;
                text.append(up == 1 ? " (up " : " (zero ").append(call == 16 ? "any" : "" + call);
                made.rules.add(clause(k, call, up, guards(random, call, made.counters, text)));
                text.append(')');
            }
            text.append(")\n");
        }
        for (int k = 0; k < made.nodes; k++) {
            text.append("(node ").append((char) ('a' + k));
            for (int n = random.nextInt(6); n > 0; n--) {
                int call = someCall(random);
                int to = random.nextInt(made.nodes);
                text.append(" (go ").append(call == 16 ? "any" : "" + call);
                made.ways.add(clause(k, call, to, guards(random, call, made.counters, text)));
                text.append(' ').append((char) ('a' + to)).append(')');
            }
            text.append(")\n");
        }
        made.text = text.toString();
        return made;
    }

    /** "A TRACE OBEYS if there are NODES behind each CALL OUTSIDE of it.": just as long the watch goes on, with its counters */
    private static void watched(GuardForge x, Simple simple, Random random) {
        for (int trace = 0; trace < 4; trace++) {
            x.resetWatch();
            simple.begin();
            for (int n = 0; n < 12; n++) {
                int call = random.nextInt(5);
                int[] arguments = {random.nextInt(6) - 2, random.nextInt(6) - 2, random.nextInt(6) - 2};
                boolean due = simple.step(call, arguments);
                int got = x.watchCall(call, arguments[0], arguments[1], arguments[2]);
                check.same("watchCall goes on in " + simple.text, got != -1, due);
                for (int k = 0; k < simple.counters; k++) {
                    check.same("counter in " + simple.text, x.counterOf(k, true), simple.now[k]);
                }
            }
        }
    }

    /**
     * "made to tables with as few states as can be for all rows of letters": no two states are alike, all are come to, and
     * in the order of letters
     */
    private static void fewest(GuardForge x) {
        int states = x.lookAt(4);
        int letters = x.lookAt(2);
        if (states * letters > 200) {
            return;
        }
        int[][] way = new int[states][letters];
        int next = 1;
        for (int p = 0; p < states; p++) {
            check.same("a state has its number ahead of its turn", p < next, true);
            for (int a = 0; a < letters; a++) {
                way[p][a] = x.wayOf(p, a);
                check.same("numbers come one by one", way[p][a] <= next, true);
                next += way[p][a] == next ? 1 : 0;
            }
        }
        check.same("all states have ways to them", next, states);
        boolean[][] apart = new boolean[states][states];
        for (boolean changed = true; changed;) {
            changed = false;
            for (int p = 0; p < states; p++) {
                for (int q = 0; q < states; q++) {
                    for (int a = 0; a < letters && !apart[p][q]; a++) {
                        int s = way[p][a];
                        int t = way[q][a];
                        apart[p][q] = (s < 0) != (t < 0) || s >= 0 && apart[s][t];
                        changed |= apart[p][q];
                    }
                }
            }
        }
        for (int p = 0; p < states; p++) {
            for (int q = 0; q < p; q++) {
                check.same("states " + q + " and " + p + " are apart", apart[p][q], true);
            }
        }
    }

    /** Programs that call outside, jump to where as much is on the stack, call and throw. */
    private static byte[] randomProgram(Random random) {
        int functions = 1 + random.nextInt(3);
        byte[][] rows = new byte[functions][];
        for (int f = 0; f < functions; f++) {
            int blocks = 2 + random.nextInt(6);
            // Blocks begin and end with nothing on the stack, and are of four instructions each.
            StringBuilder words = new StringBuilder();
            for (int b = 0; b < blocks; b++) {
                int target = 4 * random.nextInt(blocks + 1);
                switch (random.nextInt(7)) {
                    case 0:
                        words.append("host 0, pop, push 0, pop, ");
                        break;
                    case 1:
                        words.append("push ").append(random.nextInt(4)).append(", host 1, pop, jump ").append(4 * b + 4).append(", ");
                        break;
                    case 2:
                        words.append("host 4, push ").append(random.nextInt(4)).append(", host 2, pop, ");
                        break;
                    case 3:
                        words.append("host 0, push 1, and, ").append(random.nextBoolean() ? "if " : "ifnot ").append(target).append(", ");
                        break;
                    case 4:
                        words.append("call ").append(random.nextInt(functions)).append(", push 1, pop, jump ").append(target)
                                .append(", ");
                        break;
                    case 5:
                        words.append("push 1, host 0, div, pop, ");
                        break;
                    default:
                        words.append("push 7, host 0, rem, throw, ");
                        break;
                }
            }
            words.append("return, host 0, pop, return");
            int n = 4 * blocks + 4;
            int from = random.nextInt(n - 1);
            byte[] handler = Build.handler(from, from + 1 + random.nextInt(n - from), n - 2);
            rows[f] = random.nextBoolean() ? Build.function(0, 0, 0, 0, words.toString(), handler)
                    : Build.function(0, 0, 0, 0, words.toString());
        }
        return Build.program(rows);
    }

    private static Map<String, Integer> figures(GuardForge x) {
        Map<String, Integer> figures = new HashMap<>();
        for (int what = 0; what < 8; what++) {
            figures.put("end " + what, x.endOf(what));
        }
        return figures;
    }

    /** What is forged is certified, its traces obey, and it does what the program does until it is stopped. */
    private static void forged(GuardForge x, Simple simple, Random random) {
        int guards = x.forgeIt();
        check.same("forged", guards >= 0, true);
        check.same("certified", x.certifyIt(true), 0);
        check.same("instructions", x.lookAt(7), x.lookAt(6) + guards);
        check.same("certified as it is only without needs", x.certifyIt(false) == 0, guards == 0);
        for (int n = 0; n < 10; n++) {
            x.addAnswer(random.nextInt(4));
        }
        int fuel = 20 + random.nextInt(100);
        int end = x.runIt(true, fuel);
        int calls = Math.min(10, x.endOf(3));
        int[][] trace = new int[calls][5];
        simple.begin();
        for (int i = 0; i < calls; i++) {
            for (int what = 0; what < 5; what++) {
                trace[i][what] = x.traceAt(i, what);
            }
            int[] arguments = {trace[i][1], trace[i][2], trace[i][3]};
            check.same("the trace obeys " + simple.text, simple.step(trace[i][0], arguments), true);
        }
        Map<String, Integer> first = figures(x);
        int end2 = x.runIt(false, fuel);
        for (int i = 0; i < calls; i++) {
            for (int what = 0; what < 5; what++) {
                check.same("the same trace", x.traceAt(i, what), trace[i][what]);
            }
        }
        if (end != 2) {
            check.same("it ends the same", end, end2);
            for (int what : new int[] {0, 1, 2, 3, 6, 7}) {
                check.same("endOf(" + what + ")", x.endOf(what), first.get("end " + what));
            }
        } else {
            check.same("stopped ahead of the end", first.get("end 2") <= x.endOf(2), true);
        }
        // Whatever is saved and loaded again is the same program.
        int length = x.saveProgram(true);
        x.turnBytes();
        check.same("load what was forged", x.loadProgram(), 0);
        check.same("certified whoever made it", x.certifyIt(false), 0);
        check.same("it ends the same way", x.runIt(false, fuel), end);
        check.same("with the same steps", x.endOf(2), first.get("end 2"));
        check.same("in the same state", x.endOf(5), first.get("end 5"));
        check.same("length", x.saveProgram(false), length);
    }
}
