import java.util.Arrays;

/** The document's terms of counting and asking. */
final class CountedTermsSentences extends Sentences {
    private CountedTermsSentences() {
    }

    static void run() {
        joins();
        shapes();
        bodies();
        bodiesOfOne();
    }

    private static void joins() {
        says(0, "JOINS: rows of m exchanges of two of n SHEETS (n 2 to 10, m 0 to 9; each exchange of two unlike SHEETS, in "
            + "no order), one behind the other: how many of them make one and the same told order of a SHAPE (any of that "
            + "SHAPE: it is the same for each).");
        for (int n = 2; n <= 10; n++) {
            dueJoins(n);
        }
        due(x.joins(1, 0, 0), BAD);
        due(x.joins(11, 0, 0), BAD);
        due(x.joins(2, -1, 0), BAD);
        due(x.joins(2, 10, 0), BAD);
    }

    /** One order of each SHAPE is told, and each exchange done to it: by that all is known of one exchange more. */
    private static void dueJoins(int n) {
        SphereSheets shapes = new SphereSheets();
        int many = shapes.shapes(n, NONE, 0);
        long[] rows = new long[many];
        rows[many - 1] = 1;
        for (int m = 0; m <= 9; m++) {
            SphereSheets y = new SphereSheets();
            long[] next = new long[many];
            for (int s = 0; s < many; s++) {
                due(y.joins(n, m, s), rows[s]);
                next[s] = exchangedOnce(n, orderOf(n, s), rows);
            }
            due(y.joins(n, m, many), BAD);
            rows = next;
        }
    }

    private static long exchangedOnce(int n, int[] order, long[] rows) {
        long sum = 0;
        for (int a = 0; a < n; a++) {
            for (int b = a + 1; b < n; b++) {
                int[] exchanged = order.clone();
                exchanged[a] = order[b];
                exchanged[b] = order[a];
                sum += rows[shapeOf(exchanged)];
            }
        }
        return sum;
    }

    private static int[] orderOf(int n, int s) {
        SphereSheets y = new SphereSheets();
        int[] order = new int[n];
        int from = 0;
        for (int i = 0; from < n; i++) {
            int length = y.shapes(n, s, i);
            for (int x = 0; x < length; x++) {
                order[from + x] = from + (x + 1) % length;
            }
            from += length;
        }
        return order;
    }

    /** The number of an order's SHAPE is how many rows of lengths are greater than its own. */
    private static int shapeOf(int[] order) {
        int n = order.length;
        int[] lengths = new int[n];
        boolean[] met = new boolean[n];
        for (int x = 0; x < n; x++) {
            int length = 0;
            for (int y = x; !met[y]; y = order[y]) {
                met[y] = true;
                length++;
            }
            lengths[x] = -length;
        }
        Arrays.sort(lengths);
        return greater(lengths, 0, n, n, true);
    }

    private static int greater(int[] lengths, int i, int left, int most, boolean even) {
        if (left == 0) {
            return even ? 0 : 1;
        }
        int own = even ? -lengths[i] : 0;
        int sum = 0;
        for (int length = Math.min(left, most); length >= Math.max(own, 1); length--) {
            sum += greater(lengths, i + 1, left - length, length, even && length == own);
        }
        return sum;
    }

    private static void shapes() {
        says(0, "SHAPES of n: by their lengths, the longest first, the greater rows ahead (place by place), numbered from 0 "
            + "on.");
        int[][] seven = {{7}, {6, 1}, {5, 2}, {5, 1, 1}, {4, 3}, {4, 2, 1}, {4, 1, 1, 1}, {3, 3, 1}, {3, 2, 2},
            {3, 2, 1, 1}, {3, 1, 1, 1, 1}, {2, 2, 2, 1}, {2, 2, 1, 1, 1}, {2, 1, 1, 1, 1, 1}, {1, 1, 1, 1, 1, 1, 1}};
        due(x.shapes(7, NONE, 0), seven.length);
        for (int s = 0; s < seven.length; s++) {
            for (int i = 0; i <= seven[s].length; i++) {
                due(x.shapes(7, s, i), i < seven[s].length ? seven[s][i] : NONE);
            }
        }
        for (int n = 1; n <= 10; n++) {
            SphereSheets y = new SphereSheets();
            for (int s = 0; s < y.shapes(n, NONE, 0); s++) {
                due(shapeOf(orderOf(n, s)), s);
            }
        }
    }

    private static void dueAsk(int place, int what, int want, int... trace) {
        due(x.ask(place, what), want);
        for (int i = 0; i < 17; i++) {
            due(x.trace(i), i < trace.length ? trace[i] : NONE);
        }
    }

    private static void bodies() {
        says(0, "ASKS, by BODIES, each of which leaves its number in THE TRACE as it begins (the first 16):");
        lay(0, 2, 3, 0, 1, 1, 0);
        dueAsk(0, 0, 110, 14, 13, 12, 10, 22, 21, 20);
        dueAsk(0, 0, 110, 14, 13, 12, 10, 22, 21, 20);

        says(0, "0 SIZE: 10 lent to all COVERS: n.");
        lay(0, 1, 1);
        lay(1, 12, 8, shifts(12, 1, 1, 1, 1, 1, 1, 1));
        dueAsk(0, 0, 1, 10);
        dueAsk(1, 0, 12, 10);

        says(0, "11 of SIMPLE ones: what 10 gives, and k.");
        lay(0, 2, 2, 1, 0);
        lay(1, 3, 8, 1, 0, 2, 1, 0, 2, 1, 0, 2, 1, 0, 2, 1, 0, 2, 1, 0, 2, 1, 0, 2);
        dueAsk(0, 0, 4, 11, 10);
        dueAsk(1, 0, 11, 11, 10);

        says(0, "12 of THREE ones: what 10 gives, and the ROUNDS of TURN 0.");
        lay(0, 1, 3, 0, 0);
        lay(1, 12, 3, shifts(12, 0, 1));
        lay(2, 12, 3, shifts(12, 1, 0));
        dueAsk(0, 0, 2, 12, 10);
        dueAsk(1, 0, 24, 12, 10);
        dueAsk(2, 0, 13, 12, 10);

        says(0, "13 of MAPS: what 12 gives, twice.");
        lay(0, 2, 3, 1, 0, 0, 1);
        lay(1, 12, 3, shifts(12, 4, 2));
        dueAsk(0, 0, 6, 13, 12, 10);
        dueAsk(1, 0, 32, 13, 12, 10);

        says(0, "1 MARK: 20 lent to all COVERS: PARTS.");
        lay(0, 1, 1);
        lay(1, 12, 1);
        lay(2, 2, 2, 1, 0);
        dueAsk(0, 1, 1, 20);
        dueAsk(1, 1, 12, 20);
        dueAsk(2, 1, 1, 20);

        says(0, "21 of THREE ones: what 20 gives, and 100.");
        lay(0, 1, 3, 0, 0);
        lay(1, 12, 3, shifts(12, 0, 0));
        lay(2, 12, 3, shifts(12, 4, 2));
        dueAsk(0, 1, 101, 21, 20);
        dueAsk(1, 1, 112, 21, 20);
        dueAsk(2, 1, 102, 21, 20);
    }

    private static void bodiesOfOne() {
        says(0, "14 of ONE ones: what 13 gives, and MARK.");
        lay(0, 12, 3, shifts(12, 5, 1));
        lay(1, 12, 3, joined(shifts(12, 11), shifts(12, 1)));
        dueAsk(0, 0, 2 * (12 + 1) + 107, 14, 13, 12, 10, 22, 21, 20);
        due(x.kind(1), 2);
        lay(1, 6, 3, 0, 5, 4, 3, 2, 1, 5, 0, 1, 2, 3, 4);
        dueAsk(1, 0, 2 * (6 + 4) + 104, 14, 13, 12, 10, 22, 21, 20);

        says(0, "22 of ONE ones: what 21 gives, and the ROUNDS of TURN 2.");
        lay(0, 2, 3, 0, 1, 1, 0);
        lay(1, 12, 3, shifts(12, 5, 1));
        dueAsk(0, 1, 102, 22, 21, 20);
        dueAsk(1, 1, 107, 22, 21, 20);

        says(0, "(Of an ask the BODY told for the KIND begins, else that of the nearest KIND that it is, too, else the one "
            + "that is lent; SIZE, MARK within others are asked of the same COVER anew.)");
        lay(0, 4, 3, 1, 0, 2, 3, 0, 1, 3, 2);
        lay(1, 2, 2, 1, 0);
        lay(2, 2, 3, 0, 1, 1, 0);
        // A MAP has no MARK of its own: that of THREE ones; a SIMPLE one: the lent one.
        dueAsk(0, 1, 102, 21, 20);
        dueAsk(0, 0, 14, 13, 12, 10);
        dueAsk(1, 1, 1, 20);
        // The MARK within SIZE is the one of ONE ones, 22.
        dueAsk(2, 0, 110, 14, 13, 12, 10, 22, 21, 20);
    }
}
