import java.util.List;
import java.util.Map;
import java.util.Random;

/** Long random runs, each call being held against SheetsModel; the seeds are fixed, so that a failure comes again. */
public final class AgainstModelTest {
    private static final int RUNS = 3000, CALLS = 512;
    private static int wrong = 0;

    private final Random random;
    private final SphereSheets sheets = new SphereSheets();
    private final SheetsModel model = new SheetsModel();
    private final StringBuilder calls = new StringBuilder();
    private int left = CALLS;

    private AgainstModelTest(long seed) {
        random = new Random(seed);
    }

    public static void main(String[] args) {
        for (int seed = 0; seed < RUNS && wrong == 0; seed++) {
            AgainstModelTest test = new AgainstModelTest(seed);
            for (int i = 0; test.left > 110 && wrong == 0; i++) test.step();
            for (int i = 0; test.left > 0 && wrong == 0; i++) test.oneCall();
            if (wrong != 0) System.out.println("seed " + seed + ":\n" + test.calls);
        }
        joinsAgainstAllOrders();
        shapesAgainstList();
        if (wrong != 0) System.exit(1);
    }

    private void due(String call, long got, long want) {
        left--;
        calls.append(call).append(" = ").append(got).append('\n');
        if (want != SheetsModel.UNKNOWN && got != want) {
            wrong++;
            System.out.println(call + " answered " + got + ", due is " + want);
        }
    }

    private void step() {
        if (random.nextInt(4) == 0) {
            layCover();
        } else {
            oneCall();
        }
    }

    /** Rarely one that is out of bounds. */
    private int below(int bound) {
        int r = random.nextInt(60);
        return r == 0 ? -1 : r == 1 ? bound : r == 2 ? (random.nextBoolean() ? Integer.MIN_VALUE : Integer.MAX_VALUE)
            : random.nextInt(Math.max(bound, 1));
    }

    /** Few places, so that covers are met again. */
    private int place() {
        return random.nextInt(30) == 0 ? below(10) : random.nextInt(5);
    }

    private int rowNumber() {
        return random.nextInt(30) == 0 ? below(8) : random.nextInt(3);
    }

    private int sheetOf(int place) {
        return below(place >= 0 && place < 10 && model.shelf[place] != null ? model.shelf[place][0].length : 3);
    }

    private int turnOf(int place) {
        return below(place >= 0 && place < 10 && model.shelf[place] != null ? model.shelf[place].length : 3);
    }

    private int[] order(int n) {
        int[] t = new int[n];
        for (int x = 0; x < n; x++) t[x] = x;
        for (int x = n - 1; x > 0; x--) swap(t, x, random.nextInt(x + 1));
        return t;
    }

    private int[] exchange(int n) {
        int[] t = new int[n];
        for (int x = 0; x < n; x++) t[x] = x;
        int a = random.nextInt(n);
        swap(t, a, (a + 1 + random.nextInt(n - 1)) % n);
        return t;
    }

    private static void swap(int[] t, int a, int b) {
        int kept = t[a];
        t[a] = t[b];
        t[b] = kept;
    }

    private int[] oneRound(int n) {
        int[] around = order(n);
        int[] t = new int[n];
        for (int x = 0; x < n; x++) t[around[x]] = around[(x + 1) % n];
        return t;
    }

    private int[] pairs(int n) {
        int[] around = order(n);
        int[] t = new int[n];
        for (int x = 0; x < n; x++) t[around[x]] = around[x ^ 1];
        return t;
    }

    /** TURN 0 so that behind it and the second the third CLOSES. */
    private static int[] closing(int[] second, int[] third) {
        int[] t = new int[second.length];
        for (int x = 0; x < t.length; x++) t[third[second[x]]] = x;
        return t;
    }

    private int[] shift(int n, int by) {
        int[] t = new int[n];
        for (int x = 0; x < n; x++) t[x] = (x + by) % n;
        return t;
    }

    private int[][] someTurns() {
        int n = 1 + random.nextInt(random.nextBoolean() ? 6 : 12);
        int k = 1 + random.nextInt(random.nextBoolean() ? 4 : 8);
        int sort = random.nextInt(6);
        if (sort == 0 || sort == 1) {
            n = 2 * (1 + random.nextInt(6));
            int[] second = sort == 0 ? order(n) : oneRound(n);
            return new int[][] {closing(second, pairs(n)), second};
        }
        int[][] turns = new int[k - 1][];
        int[][] few = {order(n), order(n), oneRound(n)};
        for (int j = 0; j < k - 1; j++) {
            turns[j] = sort == 2 && n > 1 ? exchange(n) : sort == 3 ? few[random.nextInt(3)]
                : sort == 4 ? shift(n, random.nextInt(n)) : order(n);
        }
        if (turns.length == 0) turns = new int[1][0];
        return turns;
    }

    private void layCover() {
        int[][] turns = someTurns();
        int n = turns[0].length == 0 ? 1 + random.nextInt(12) : turns[0].length;
        int k = turns[0].length == 0 ? 1 : turns.length + 1;
        int row = random.nextInt(3);
        int from = random.nextInt(96 - n * (k - 1) + 1);
        int size = random.nextInt(20) == 0 ? from + n * (k - 1) : 96;
        row(row, random.nextInt(3), size);
        for (int j = 0; j < k - 1; j++) {
            for (int x = 0; x < n; x++) set(row, from + j * n + x, turns[j][x]);
        }
        if (random.nextInt(20) == 0 && k > 1) set(row, from + random.nextInt(n * (k - 1)), random.nextInt(n + 2) - 1);
        cover(place(), row, random.nextInt(20) == 0 ? from + 1 : from, n, k);
    }

    private void row(int row, int lane, int n) {
        due("row(" + row + ", " + lane + ", " + n + ")", sheets.row(row, lane, n), model.row(row, lane, n));
    }

    private void set(int row, int i, int v) {
        due("set(" + row + ", " + i + ", " + v + ")", sheets.set(row, i, v), model.set(row, i, v));
    }

    private void cover(int place, int row, int i, int n, int k) {
        due("cover(" + place + ", " + row + ", " + i + ", " + n + ", " + k + ")", sheets.cover(place, row, i, n, k),
            model.cover(place, row, i, n, k));
    }

    private void oneCall() {
        int call = random.nextInt(28);
        if (call < 8) {
            rowsCall(call);
        } else if (call < 15) {
            coversCall(call);
        } else {
            askedCall(call);
        }
        if (left > 0 && random.nextInt(3) == 0) due("status()", sheets.status(), model.status());
    }

    private void rowsCall(int call) {
        int r = rowNumber();
        int s = rowNumber();
        int i = below(20);
        int j = below(20);
        int n = random.nextInt(10) == 0 ? below(97) : random.nextInt(6);
        switch (call) {
            case 0:
                if (random.nextInt(3) == 0) row(r, below(3), below(97));
                break;
            case 1:
                set(r, below(96), random.nextBoolean() ? random.nextInt() : random.nextInt(17) - 8);
                break;
            case 2:
                due("copy(" + r + ", " + i + ", " + s + ", " + j + ", " + n + ")", sheets.copy(r, i, s, j, n),
                    model.copy(r, i, s, j, n));
                break;
            case 3:
                if (random.nextInt(4) == 0) due("drop(" + r + ")", sheets.drop(r), model.drop(r));
                break;
            case 4:
                cover(place(), r, below(96), 1 + below(12), 1 + below(8));
                break;
            case 5:
                int what = below(7);
                due("count(" + what + ")", sheets.count(what), model.count(what));
                break;
            case 6:
                due("trace(" + i + ")", sheets.trace(i), model.trace(i));
                break;
            default:
                int p = place();
                int sheet = sheetOf(p);
                due("lift(" + p + ", " + r + ", " + i + ", " + n + ", " + sheet + ")", sheets.lift(p, r, i, n, sheet),
                    model.lift(p, r, i, n, sheet));
                break;
        }
    }

    private void coversCall(int call) {
        int to = place();
        int p = place();
        int q = place();
        int a = sheetOf(p);
        int b = sheetOf(p);
        int how = below(2);
        switch (call) {
            case 8:
                int part = random.nextInt(3);
                due("part(" + to + ", " + p + ", " + part + ")", sheets.part(to, p, part), model.part(to, p, part));
                break;
            case 9:
                due("name(" + to + ", " + p + ")", sheets.name(to, p), model.name(to, p));
                break;
            case 10:
                due("between(" + to + ", " + p + ", " + a + ", " + b + ")", sheets.between(to, p, a, b),
                    model.between(to, p, a, b));
                break;
            case 11:
                int j = turnOf(p);
                due("braid(" + to + ", " + p + ", " + j + ", " + how + ")", sheets.braid(to, p, j, how),
                    model.braid(to, p, j, how));
                break;
            case 12:
                due("turn(" + to + ", " + p + ", " + how + ")", sheets.turn(to, p, how), model.turn(to, p, how));
                break;
            case 13:
                due("over(" + to + ", " + p + ", " + q + ")", sheets.over(to, p, q), model.over(to, p, q));
                break;
            default:
                if (random.nextInt(4) == 0) due("clear(" + p + ")", sheets.clear(p), model.clear(p));
                break;
        }
    }

    private void askedCall(int call) {
        int p = place();
        int q = place();
        int a = sheetOf(p);
        int b = sheetOf(p);
        int t = turnOf(p);
        int what = below(6);
        switch (call) {
            case 15: case 16:
                due("told(" + p + ", " + what + ")", sheets.told(p, what), model.told(p, what));
                break;
            case 17: case 18:
                due("leads(" + p + ", " + t + ", " + a + ")", sheets.leads(p, t, a), model.leads(p, t, a));
                break;
            case 19:
                due("shape(" + p + ", " + t + ", " + a + ")", sheets.shape(p, t, a), model.shape(p, t, a));
                break;
            case 20: case 21:
                int sheet = random.nextInt(3) == 0 ? -1 : sheetOf(p);
                due("block(" + p + ", " + a + ", " + b + ", " + sheet + ")", sheets.block(p, a, b, sheet),
                    model.block(p, a, b, sheet));
                break;
            case 22:
                due("same(" + p + ", " + q + ")", sheets.same(p, q), model.same(p, q));
                break;
            case 23:
                if (random.nextInt(6) == 0) due("ring(" + p + ")", sheets.ring(p), model.ring(p));
                break;
            case 24:
                due("kind(" + p + ")", sheets.kind(p), model.kind(p));
                break;
            case 25:
                due("is(" + p + ", " + what + ")", sheets.is(p, what), model.is(p, what));
                break;
            case 26:
                due("as(" + p + ", " + what + ")", sheets.as(p, what), model.as(p, what));
                break;
            default:
                askAndTrace(p, below(2));
                break;
        }
    }

    private void askAndTrace(int p, int what) {
        due("ask(" + p + ", " + what + ")", sheets.ask(p, what), model.ask(p, what));
        for (int i = 0; i < 8 && left > 0; i++) due("trace(" + i + ")", sheets.trace(i), model.trace(i));
    }

    private static void joinsAgainstAllOrders() {
        for (int n = 2; n <= 7; n++) {
            List<List<Integer>> shapes = SheetsModel.shapesOf(n);
            for (int m = 0; m <= (n == 7 ? 6 : 9); m++) {
                Map<List<Integer>, Long> all = SheetsModel.joinsOfAll(n, m);
                AgainstModelTest test = new AgainstModelTest(0);
                for (int s = 0; s < shapes.size(); s++) {
                    long want = all.getOrDefault(SheetsModel.orderOf(shapes.get(s)), 0L);
                    test.due("joins(" + n + ", " + m + ", " + s + ")", test.sheets.joins(n, m, s), want);
                }
            }
        }
    }

    private static void shapesAgainstList() {
        for (int n = 1; n <= 10; n++) {
            List<List<Integer>> shapes = SheetsModel.shapesOf(n);
            AgainstModelTest test = new AgainstModelTest(0);
            test.due("shapes(" + n + ", NONE, 5)", test.sheets.shapes(n, -1000000, 5), shapes.size());
            for (int s = 0; s < shapes.size(); s++) {
                for (int i = 0; i <= shapes.get(s).size(); i++) {
                    int want = i < shapes.get(s).size() ? shapes.get(s).get(i) : -1000000;
                    test.due("shapes(" + n + ", " + s + ", " + i + ")", test.sheets.shapes(n, s, i), want);
                }
            }
        }
    }
}
