import java.io.ByteArrayOutputStream;
import java.util.ArrayList;
import java.util.Arrays;
import java.util.List;

/** Makes bytes of programs out of words like "push 5, host 1, return". */
final class Build {
    static final List<String> NAMES = Arrays.asList("push", "pop", "dup", "swap", "load", "store", "add", "sub",
            "mul", "div", "rem", "and", "or", "xor", "shl", "shr", "less", "same", "jump", "if", "ifnot", "new",
            "get", "put", "size", "call", "host", "return", "throw", "guard");

    private Build() {
    }

    static byte[] join(byte[]... rows) {
        ByteArrayOutputStream out = new ByteArrayOutputStream();
        for (byte[] row : rows) {
            out.write(row, 0, row.length);
        }
        return out.toByteArray();
    }

    /** A number of so many bytes, the highest first. */
    static byte[] number(long v, int width) {
        byte[] row = new byte[width];
        for (int k = 0; k < width; k++) {
            row[k] = (byte) (v >> 8 * (width - 1 - k));
        }
        return row;
    }

    static int width(int op) {
        return op == 0 ? 4 : op >= 18 && op <= 20 ? 2 : op == 4 || op == 5 || op == 25 || op == 26 || op == 29 ? 1 : 0;
    }

    /** Instructions, with how many they are ahead. */
    static byte[] code(String words) {
        List<byte[]> rows = new ArrayList<>();
        for (String one : words.split(",")) {
            String[] parts = one.trim().split(" +");
            int op = NAMES.indexOf(parts[0]);
            if (op < 0) {
                throw new IllegalArgumentException(one);
            }
            long operand = parts.length > 1 ? Long.parseLong(parts[1]) : 0;
            rows.add(join(number(op, 1), number(operand, width(op))));
        }
        return join(number(rows.size(), 2), join(rows.toArray(new byte[0][])));
    }

    /** The same words again and again, then others. */
    static String times(int n, String words, String last) {
        StringBuilder all = new StringBuilder();
        for (int k = 0; k < n; k++) {
            all.append(words).append(", ");
        }
        return all + last;
    }

    /** As many texts as said, each with another letter in the middle, from a on. */
    static String named(int n, String before, String after) {
        StringBuilder all = new StringBuilder();
        for (int k = 0; k < n; k++) {
            all.append(before).append((char) ('a' + k)).append(after);
        }
        return all.toString();
    }

    static byte[] handler(int from, int to, int target) {
        return join(number(from, 2), number(to, 2), number(target, 2), number(0, 1));
    }

    static byte[] handler(int from, int to, int target, int code) {
        return join(number(from, 2), number(to, 2), number(target, 2), number(1, 1), number(code, 4));
    }

    static byte[] function(int params, int locals, int rows, int result, String words, byte[]... handlers) {
        return join(number(params, 1), number(locals, 1), number(rows, 2), number(result, 1), code(words),
                number(handlers.length, 1), join(handlers));
    }

    static byte[] program(byte[]... functions) {
        return join(new byte[] {71, 70, 1, (byte) functions.length}, join(functions));
    }

    /** One function without a result, and LOCALS 0, an INT, and 1, a ROW. */
    static byte[] plain(String words, byte[]... handlers) {
        return program(function(0, 2, 2, 0, words, handlers));
    }

    /** One function that has an int as its result, and LOCALS 0 .. 3 INTS, 4 and 5 ROWS. */
    static byte[] main(String words, byte[]... handlers) {
        return program(function(0, 6, 48, 1, words, handlers));
    }
}
