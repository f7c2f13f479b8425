import java.nio.charset.StandardCharsets;

/** What the tests of the project share: telling answers that are not due, and feeding bytes. */
final class Check {
    private final String test;
    private int wrong;
    private int looked;

    Check(String test) {
        this.test = test;
    }

    void same(String what, long got, long due) {
        looked++;
        if (got != due) {
            wrong++;
            if (wrong <= 40) {
                System.out.println(test + ": " + what + " answered " + got + ", due is " + due);
            }
        }
    }

    void same(String what, boolean got, boolean due) {
        same(what, got ? 1 : 0, due ? 1 : 0);
    }

    /** Ends the test: exit code 1 if an answer was wrong. */
    void end() {
        System.out.println(test + ": " + looked + " answers looked at, " + wrong + " wrong");
        System.exit(wrong == 0 && looked > 0 ? 0 : 1);
    }

    /** The bytes become these alone, eight a call as far as it goes. */
    static void give(GuardForge x, byte[] row) {
        x.cutBytes(0);
        for (int from = 0; from < row.length; from += 8) {
            int n = Math.min(8, row.length - from);
            long v = 0;
            for (int k = 0; k < n; k++) {
                v = v << 8 | row[from + k] & 255;
            }
            x.giveBytes(v, n);
        }
    }

    static int policy(GuardForge x, String text) {
        give(x, text.getBytes(StandardCharsets.ISO_8859_1));
        return x.loadPolicy();
    }

    static int program(GuardForge x, byte[] row) {
        give(x, row);
        return x.loadProgram();
    }

    /** A new object with this policy. */
    GuardForge with(String text) {
        GuardForge x = new GuardForge();
        same("loadPolicy of " + text, policy(x, text), 0);
        return x;
    }

    /** A new object with this policy and this program. */
    GuardForge with(String text, byte[] row) {
        GuardForge x = with(text);
        same("loadProgram", program(x, row), 0);
        return x;
    }

    /** A new object with its first policy and this program. */
    GuardForge with(byte[] row) {
        GuardForge x = new GuardForge();
        same("loadProgram", program(x, row), 0);
        return x;
    }

    /** How a program ends that is given as much fuel as can be, by the first policy and without answers. */
    void ends(String name, byte[] row, int how, int value) {
        GuardForge x = with(row);
        same(name + ": runIt", x.runIt(false, 20000), how);
        same(name + ": how", x.endOf(0), how);
        same(name + ": value", x.endOf(1), value);
    }

    void policyFault(GuardForge x, String text, int fault, int place) {
        String shown = text.length() > 70 ? text.substring(0, 70) + ".." : text;
        same("loadPolicy of " + shown, policy(x, text), fault);
        same("lookAt(11) behind " + shown, x.lookAt(11), fault);
        same("lookAt(12) behind " + shown, x.lookAt(12), place);
    }

    /** A text that is right, on a new object, which it leaves. */
    GuardForge rightText(String text) {
        GuardForge x = new GuardForge();
        policyFault(x, text, 0, -1);
        return x;
    }

    /** A text with a fault, on a new object, which has its first policy still. */
    void wrongText(String text, int fault, int place) {
        GuardForge x = new GuardForge();
        policyFault(x, text, fault, place);
        same("nodes stay behind " + text, x.lookAt(1), 1);
        same("letters stay behind " + text, x.lookAt(2), 16);
    }

    /** A fault whose place is where @ stands in the text. */
    void wrongAt(String text, int fault) {
        wrongText(text.replace("@", ""), fault, text.indexOf('@'));
    }

    void programFault(GuardForge x, String name, byte[] row, int fault, int place) {
        same("loadProgram of " + name, program(x, row), fault);
        same("lookAt(11) behind " + name, x.lookAt(11), fault);
        same("lookAt(12) behind " + name, x.lookAt(12), place);
    }
}
