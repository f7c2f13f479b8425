import java.util.ArrayList;
import java.util.LinkedHashMap;
import java.util.List;
import java.util.Map;
import java.util.function.Consumer;
import java.util.function.ToLongFunction;

/**
 * All that an object answers behind some calls. Looking takes many calls, of which an object has 512 at most, so the
 * calls are done again on a new object for each part of what is looked at.
 */
final class Look {
    private static final int PART = 120;

    private final Consumer<GuardForge> calls;
    private final List<String> names = new ArrayList<>();
    private final List<ToLongFunction<GuardForge>> probes = new ArrayList<>();

    private Look(Consumer<GuardForge> calls) {
        this.calls = calls;
    }

    private GuardForge made() {
        GuardForge x = new GuardForge();
        calls.accept(x);
        return x;
    }

    private void ask(String name, ToLongFunction<GuardForge> probe) {
        names.add(name);
        probes.add(probe);
    }

    static Map<String, Long> at(Consumer<GuardForge> calls) {
        Look look = new Look(calls);
        GuardForge sizes = look.made();
        look.askState();
        look.askBytes(sizes.lookAt(9), sizes.lookAt(10));
        look.askPolicy(sizes.lookAt(4), sizes.lookAt(2));
        for (boolean forged : new boolean[] {false, true}) {
            look.askProgram(sizes, forged);
        }
        Map<String, Long> answers = new LinkedHashMap<>();
        GuardForge x = null;
        for (int k = 0; k < look.probes.size(); k++) {
            x = k % PART == 0 ? look.made() : x;
            answers.put(look.names.get(k), look.probes.get(k).applyAsLong(x));
        }
        look.act(answers);
        return answers;
    }

    private void askState() {
        for (int which = -1; which <= 14; which++) {
            int n = which;
            ask("lookAt(" + n + ")", x -> x.lookAt(n));
        }
        for (int what = -1; what <= 8; what++) {
            int n = what;
            ask("endOf(" + n + ")", x -> x.endOf(n));
        }
        for (int i = 0; i < 4; i++) {
            for (int what = 0; what < 5; what++) {
                int at = i;
                int n = what;
                ask("traceAt(" + at + ", " + n + ")", x -> x.traceAt(at, n));
            }
        }
        for (int k = 0; k < 6; k++) {
            int n = k;
            ask("counterOf(" + n + ", true)", x -> x.counterOf(n, true));
            ask("counterOf(" + n + ", false)", x -> x.counterOf(n, false));
        }
    }

    private void askBytes(int bytes, int written) {
        for (int k = -1; k <= Math.max(bytes, written); k++) {
            int n = k;
            ask("byteOf(" + n + ", true)", x -> x.byteOf(n, true));
            ask("byteOf(" + n + ", false)", x -> x.byteOf(n, false));
        }
    }

    private void askPolicy(int states, int letters) {
        for (int letter = 0; letter <= letters; letter++) {
            int n = letter;
            for (int what = 0; what <= 9; what++) {
                int of = what;
                ask("letterOf(" + n + ", " + of + ")", x -> x.letterOf(n, of));
            }
            for (int state = 0; state <= states; state++) {
                int p = state;
                ask("wayOf(" + p + ", " + n + ")", x -> x.wayOf(p, n));
            }
        }
    }

    private void askProgram(GuardForge sizes, boolean forged) {
        ask("certifyIt(" + forged + ")", x -> x.certifyIt(forged));
        for (int f = 0; f <= Math.max(0, sizes.lookAt(5)); f++) {
            int of = f;
            for (int what = -1; what <= 5; what++) {
                int n = what;
                ask("functionOf(" + forged + ", " + of + ", " + n + ")", x -> x.functionOf(forged, of, n));
            }
            for (int i = 0; i <= Math.max(0, sizes.functionOf(forged, f, 3)); i++) {
                int at = i;
                for (int what = 0; what <= 5; what++) {
                    int n = what;
                    ask("codeOf(" + forged + ", " + of + ", " + at + ", " + n + ")", x -> x.codeOf(forged, of, at, n));
                }
                ask("mayOf(" + forged + ", " + of + ", " + at + ")", x -> x.mayOf(forged, of, at));
            }
        }
    }

    /** What calls that change something answer next, and what there is then. */
    private void act(Map<String, Long> answers) {
        for (boolean forged : new boolean[] {false, true}) {
            GuardForge x = made();
            answers.put("then runIt(" + forged + ", 60)", (long) x.runIt(forged, 60));
            for (int what = 0; what < 8; what++) {
                answers.put("then endOf(" + what + ") of " + forged, (long) x.endOf(what));
            }
            answers.put("then saveProgram(" + forged + ")", (long) x.saveProgram(forged));
            for (int k = 0; k < 30; k++) {
                answers.put("then byteOf(" + k + ", false) of " + forged, (long) x.byteOf(k, false));
            }
        }
        GuardForge x = made();
        answers.put("then forgeIt()", (long) x.forgeIt());
        answers.put("then lookAt(7)", (long) x.lookAt(7));
        answers.put("then certifyIt(true)", (long) x.certifyIt(true));
        answers.put("then runIt of what was forged", (long) x.runIt(true, 60));
        answers.put("then steps of what was forged", (long) x.endOf(2));
        x = made();
        for (int c = 0; c < 4; c++) {
            answers.put("then watchCall(" + c + ")", (long) x.watchCall(c, 1, 2, 3));
        }
        x.addAnswer(123);
        answers.put("then lookAt(8)", (long) x.lookAt(8));
        x.turnBytes();
        answers.put("then lookAt(9)", (long) x.lookAt(9));
    }
}
