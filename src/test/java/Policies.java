/** Texts of policies that just fit, and that just do not. */
final class Policies {
    private Policies() {
    }

    /** A row of 22 nodes, each of which can be told from all others by argument 0 of call 1. */
    private static final int ROW = 22;

    private static String node(int k) {
        return "s" + (char) ('a' + k);
    }

    /**
     * 63 sets of nodes, no two of them alike: 22 single ones, 21 pairs of neighbours, 20 pairs with one between;
     * with 64, one node more by itself.
     */
    static String sets(int count) {
        StringBuilder text = new StringBuilder();
        for (int k = 0; k < ROW; k++) {
            text.append("(node ").append(node(k));
            if (k < ROW - 1) {
                text.append("(go 0 ").append(node(k + 1)).append(')');
            }
            text.append("(go 1 (arg 0 same ").append(k).append(") ").append(node(k)).append(')');
            text.append(k > 0 ? "" : "(go 4 sa)(go 4 sb)(go 8 sa)(go 8 sc)" + (count == 64 ? "(go 12 x)" : "")).append(')');
        }
        return text + (count == 64 ? "(node x)" : "");
    }

    /** 64 sets, and the last one's node has so many ways which divide all arguments of all calls: two are too many. */
    static String setsAndLetters(int ways) {
        StringBuilder more = new StringBuilder("(node x");
        for (int k = 0; k < ways; k++) {
            int number = 30 + 2 * k;
            more.append("(go any (arg 0 same ").append(number).append(") (arg 1 same ").append(number)
                    .append(") (arg 2 same ").append(number).append(") x)");
        }
        return sets(64).replace("(node x", more);
    }

    /**
     * So many letters, 511 or more: 13 calls have one each, call 3 has 8 * 8 * 7, call 2 has 7 * 7, call 1 the others.
     * It is short enough to be given in less than 512 calls.
     */
    static String letters(int count) {
        return ways(3, 7, 7, 6) + ways(2, 6, 6).replace("(node ", "(node b") + ways(1, count - 511).replace("(node ", "(node c");
    }

    /** Nodes whose ways divide the arguments of a call so many times, each at 0, 1 and so on. */
    private static String ways(int call, int... divisions) {
        StringBuilder text = new StringBuilder();
        int guards = 0;
        for (int i = 0; i < divisions.length; i++) {
            for (int k = 0; k < divisions[i]; k++) {
                text.append(guards % 4 > 0 ? "" : guards == 0 ? "(go " + call : "a)(go " + call);
                text.append("(arg ").append(i).append(" less ").append(k).append(")");
                guards++;
            }
        }
        return "(node a" + (guards == 0 ? "" : text + "a)") + ")";
    }
}
