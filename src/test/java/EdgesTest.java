import java.util.Arrays;

/**
 * Every call with all choices of numbers at and beyond its bounds, several wrong ones at once among them, held against
 * SheetsModel: what it answers, and what status() tells then.
 */
public final class EdgesTest extends Sentences {
    private static final int[] ROWS = {LEAST, -1, 0, 1, 3, 4, 7, 8, MOST};
    private static final int[] PLACES = {LEAST, -1, 0, 1, 2, 3, 4, 5, 6, 7, 8, 9, 10, MOST};
    private static final int[] FEW_PLACES = {-1, 0, 2, 5, 9, 10};
    private static final int[] ITEMS = {LEAST, -1, 0, 1, 3, 4, 5, 6, 7, MOST - 3, MOST};
    private static final int[] SHEETS = {LEAST, -2, -1, 0, 2, 3, 11, 12, MOST};
    private static final int[] TURNS = {LEAST, -1, 0, 1, 2, 3, 6, 7, 8, MOST};
    private static final int[] CHOICES = {LEAST, -1, 0, 1, 2, 3, 4, 5, 6, 7, MOST};

    interface Ours {
        long on(SphereSheets y, int[] v);
    }

    interface Due {
        long on(SheetsModel model, int[] v);
    }

    private static SphereSheets sheets;
    private static SheetsModel model;
    private static int calls, wrong;

    public static void main(String[] args) {
        rows();
        covers();
        asked();
        counted();
        System.out.println(calls + " calls at the edges, " + (wrong == 0 ? "all as due" : wrong + " not as due"));
        if (wrong != 0) {
            System.exit(1);
        }
    }

    private static void rows() {
        hold("row", (y, v) -> y.row(v[0], v[1], v[2]), (m, v) -> m.row(v[0], v[1], v[2]),
            ROWS, CHOICES, new int[] {LEAST, -1, 0, 1, 95, 96, 97, MOST});
        hold("set", (y, v) -> y.set(v[0], v[1], v[2]), (m, v) -> m.set(v[0], v[1], v[2]),
            ROWS, ITEMS, new int[] {LEAST, -32769, -129, -1, 0, 127, 128, 255, 256, 32767, 32768, 65536, MOST});
        hold("copy", (y, v) -> y.copy(v[0], v[1], v[2], v[3], v[4]), (m, v) -> m.copy(v[0], v[1], v[2], v[3], v[4]),
            ROWS, ITEMS, new int[] {-1, 1, 2, 3, 4, 8}, ITEMS, ITEMS);
        hold("drop", (y, v) -> y.drop(v[0]), (m, v) -> m.drop(v[0]), ROWS);
    }

    private static void covers() {
        hold("cover", (y, v) -> y.cover(v[0], v[1], v[2], v[3], v[4]), (m, v) -> m.cover(v[0], v[1], v[2], v[3], v[4]),
            FEW_PLACES, ROWS, ITEMS, new int[] {LEAST, -1, 0, 1, 2, 3, 12, 13, MOST}, TURNS);
        hold("part", (y, v) -> y.part(v[0], v[1], v[2]), (m, v) -> m.part(v[0], v[1], v[2]), PLACES, PLACES, SHEETS);
        hold("name", (y, v) -> y.name(v[0], v[1]), (m, v) -> m.name(v[0], v[1]), PLACES, PLACES);
        hold("between", (y, v) -> y.between(v[0], v[1], v[2], v[3]), (m, v) -> m.between(v[0], v[1], v[2], v[3]),
            FEW_PLACES, PLACES, SHEETS, SHEETS);
        hold("braid", (y, v) -> y.braid(v[0], v[1], v[2], v[3]), (m, v) -> m.braid(v[0], v[1], v[2], v[3]),
            FEW_PLACES, PLACES, TURNS, CHOICES);
        hold("turn", (y, v) -> y.turn(v[0], v[1], v[2]), (m, v) -> m.turn(v[0], v[1], v[2]), PLACES, PLACES, CHOICES);
        hold("over", (y, v) -> y.over(v[0], v[1], v[2]), (m, v) -> m.over(v[0], v[1], v[2]), PLACES, PLACES, PLACES);
        hold("clear", (y, v) -> y.clear(v[0]), (m, v) -> m.clear(v[0]), PLACES);
    }

    private static void asked() {
        hold("told", (y, v) -> y.told(v[0], v[1]), (m, v) -> m.told(v[0], v[1]), PLACES, CHOICES);
        hold("leads", (y, v) -> y.leads(v[0], v[1], v[2]), (m, v) -> m.leads(v[0], v[1], v[2]), PLACES, TURNS, SHEETS);
        hold("shape", (y, v) -> y.shape(v[0], v[1], v[2]), (m, v) -> m.shape(v[0], v[1], v[2]), PLACES, TURNS, SHEETS);
        hold("block", (y, v) -> y.block(v[0], v[1], v[2], v[3]), (m, v) -> m.block(v[0], v[1], v[2], v[3]),
            PLACES, SHEETS, SHEETS, SHEETS);
        hold("same", (y, v) -> y.same(v[0], v[1]), (m, v) -> m.same(v[0], v[1]), PLACES, PLACES);
        hold("ring", (y, v) -> y.ring(v[0]), (m, v) -> m.ring(v[0]), PLACES);
        hold("lift", (y, v) -> y.lift(v[0], v[1], v[2], v[3], v[4]), (m, v) -> m.lift(v[0], v[1], v[2], v[3], v[4]),
            FEW_PLACES, ROWS, ITEMS, new int[] {LEAST, -1, 0, 1, 2, 4, 95, 96, 97, MOST}, SHEETS);
        hold("kind", (y, v) -> y.kind(v[0]), (m, v) -> m.kind(v[0]), PLACES);
        hold("is", (y, v) -> y.is(v[0], v[1]), (m, v) -> m.is(v[0], v[1]), PLACES, CHOICES);
        hold("as", (y, v) -> y.as(v[0], v[1]), (m, v) -> m.as(v[0], v[1]), PLACES, CHOICES);
        hold("ask", (y, v) -> y.ask(v[0], v[1]), (m, v) -> m.ask(v[0], v[1]), PLACES, CHOICES);
        hold("trace", (y, v) -> y.trace(v[0]), (m, v) -> m.trace(v[0]), ITEMS);
    }

    private static void counted() {
        int[] many = {LEAST, NONE - 1, NONE, -1, 0, 1, 2, 3, 9, 10, 11, MOST};
        hold("joins", (y, v) -> y.joins(v[0], v[1], v[2]), (m, v) -> EdgesTest.joins(v[0], v[1], v[2]), many, many, many);
        hold("shapes", (y, v) -> y.shapes(v[0], v[1], v[2]), (m, v) -> EdgesTest.shapes(v[0], v[1], v[2]),
            many, many, many);
        hold("count", (y, v) -> y.count(v[0]), (m, v) -> m.count(v[0]), CHOICES);
        hold("status", (y, v) -> y.status(), (m, v) -> m.status());
    }

    /** Rows of many exchanges of many SHEETS are too dear to be counted out here. */
    private static long joins(int n, int m, int s) {
        if (n < 2 || n > 10 || m < 0 || m > 9 || s < 0 || s >= SheetsModel.shapesOf(n).size()) {
            return BAD;
        }
        return n > 3 ? SheetsModel.UNKNOWN
            : SheetsModel.joinsOfAll(n, m).getOrDefault(SheetsModel.orderOf(SheetsModel.shapesOf(n).get(s)), 0L);
    }

    private static int shapes(int n, int s, int i) {
        if (n < 1 || n > 10) {
            return BAD;
        }
        int there = SheetsModel.shapesOf(n).size();
        if (s == NONE) {
            return there;
        }
        if (s < 0 || s >= there) {
            return BAD;
        }
        int lengths = SheetsModel.shapesOf(n).get(s).size();
        return i < 0 || i >= lengths ? NONE : SheetsModel.shapesOf(n).get(s).get(i);
    }

    /** Each choice of one number from each row; what is not refused may change much, so then both are made anew. */
    private static void hold(String name, Ours ours, Due due, int[]... choices) {
        int[] at = new int[choices.length];
        int[] v = new int[choices.length];
        int since = 0;
        furnishBoth();
        for (long left = allChoices(choices); left > 0; left--) {
            for (int i = 0; i < v.length; i++) {
                v[i] = choices[i][at[i]];
            }
            long got = ours.on(sheets, v);
            long want = due.on(model, v);
            int status = sheets.status();
            calls++;
            since++;
            if (want != SheetsModel.UNKNOWN && got != want || status != model.status()) {
                wrong++;
                System.out.println(name + Arrays.toString(v) + " answered " + got + ", due is " + want
                    + "; status() " + status + ", due is " + model.status());
            }
            if (got > NONE || since == 100) {
                furnishBoth();
                since = 0;
            }
            step(at, choices);
        }
    }

    private static long allChoices(int[][] choices) {
        long all = 1;
        for (int[] row : choices) {
            all *= row.length;
        }
        return all;
    }

    private static void step(int[] at, int[][] choices) {
        for (int i = 0; i < at.length; i++) {
            at[i]++;
            if (at[i] < choices[i].length) {
                return;
            }
            at[i] = 0;
        }
    }

    private static void furnishBoth() {
        sheets = furnished();
        model = new SheetsModel();
        for (int place = 0; place < LAID.length; place++) {
            fillInModel(7, 2, behind(LAID[place], 2));
            model.cover(place, 7, 0, LAID[place][0], LAID[place][1]);
            model.drop(7);
        }
        for (int row = 0; row < FILLED.length; row++) {
            fillInModel(row, FILLED[row][0], behind(FILLED[row], 1));
        }
        model.ask(4, 0);
        model.copy(0, 0, 1, 0, 0);
    }

    private static void fillInModel(int row, int lane, int... items) {
        model.row(row, lane, items.length);
        for (int i = 0; i < items.length; i++) {
            model.set(row, i, items[i]);
        }
    }
}
