import java.io.ByteArrayOutputStream;

/** Makes bytes of programs. */
final class Build {
    private Build() {
    }

    static byte[] join(byte[]... rows) {
        ByteArrayOutputStream out = new ByteArrayOutputStream();
        for (byte[] row : rows) {
            out.write(row, 0, row.length);
        }
        return out.toByteArray();
    }

    /** A number of so many bytes, the highest first. */
    static byte[] number(int v, int width) {
        byte[] row = new byte[width];
        for (int k = 0; k < width; k++) {
            row[k] = (byte) (v >> 8 * (width - 1 - k));
        }
        return row;
    }

    static int width(int op) {
        return op == 0 ? 4 : op >= 18 && op <= 20 ? 2 : op == 4 || op == 5 || op == 25 || op == 26 || op == 29 ? 1 : 0;
    }

    static byte[] op(int op) {
        return number(op, 1);
    }

    static byte[] op(int op, int operand) {
        return join(number(op, 1), number(operand, width(op)));
    }

    static byte[] push(int k) {
        return op(0, k);
    }

    /** Instructions, with how many they are ahead. */
    static byte[] code(byte[]... ops) {
        return join(number(ops.length, 2), join(ops));
    }

    static byte[] handler(int from, int to, int target) {
        return join(number(from, 2), number(to, 2), number(target, 2), number(0, 1));
    }

    static byte[] handler(int from, int to, int target, int code) {
        return join(number(from, 2), number(to, 2), number(target, 2), number(1, 1), number(code, 4));
    }

    static byte[] function(int params, int locals, int rows, int result, byte[] code, byte[]... handlers) {
        return join(number(params, 1), number(locals, 1), number(rows, 2), number(result, 1), code,
                number(handlers.length, 1), join(handlers));
    }

    static byte[] program(byte[]... functions) {
        return join(new byte[] {71, 70, 1, (byte) functions.length}, join(functions));
    }

    /** A program of one function without locals or handlers, with an int as its result. */
    static byte[] main(byte[]... ops) {
        return program(function(0, 0, 0, 1, code(ops)));
    }

    static byte[][] repeat(int n, byte[] first, byte[] second, byte[] last) {
        byte[][] rows = new byte[n][];
        for (int k = 0; k < n - 1; k++) {
            rows[k] = k % 2 == 0 ? first : second;
        }
        rows[n - 1] = last;
        return rows;
    }

    /** 8188 bytes. */
    static byte[] longProgram() {
        byte[][] functions = new byte[7][];
        int left = 8188 - 4;
        for (int f = 0; f < 7; f++) {
            int bytes = left / (7 - f);
            functions[f] = longFunction(bytes);
            left -= functions[f].length;
        }
        return program(functions);
    }

    /** A function of just so many bytes: pairs of PUSH and POP, then JUMPs to the next one, or POPs of what is there. */
    private static byte[] longFunction(int bytes) {
        int body = bytes - 8 - 1;
        java.util.ArrayList<byte[]> rows = new java.util.ArrayList<>();
        int used = 0;
        while (used + 6 <= body) {
            rows.add(push(rows.size()));
            rows.add(op(1));
            used += 6;
        }
        while (used + 3 <= body) {
            rows.add(op(18, rows.size() + 1));
            used += 3;
        }
        if (used + 2 == body) {
            rows.add(op(27));
            used++;
        }
        if (used + 1 == body) {
            rows.add(op(27));
            used++;
        }
        rows.add(op(27));
        return function(0, 0, 0, 0, code(rows.toArray(new byte[0][])));
    }
}
