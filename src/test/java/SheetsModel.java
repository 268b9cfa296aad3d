import java.util.ArrayList;
import java.util.Arrays;
import java.util.Collections;
import java.util.HashMap;
import java.util.HashSet;
import java.util.List;
import java.util.Map;
import java.util.Set;

/**
 * The document told a second time, in the slowest and plainest way, to be held against the class. Nothing is shared with
 * it: orders are arrays, heaps and rings are sets, exchanges are counted over all orders.
 */
final class SheetsModel {
    static final int NONE = -1000000, BAD = -1000001, FULL = -1000003;
    /** An answer that the model finds too dear. */
    static final int UNKNOWN = Integer.MIN_VALUE;
    static final int MOST_ORDERS = 5040;

    int[][] items = new int[8][];
    int[] lanes = new int[8];
    int[][][] shelf = new int[10][][];
    List<Integer> traced = new ArrayList<>();
    int finding = 0;

    int row(int row, int lane, int n) {
        if (bad(row, 8) || bad(lane, 3) || n > 96) return BAD;
        if (n < 0) return found(4);
        items[row] = new int[n];
        lanes[row] = lane;
        return fine(n);
    }

    int set(int row, int i, int v) {
        if (bad(row, 8)) return BAD;
        if (items[row] == null) return found(1);
        if (bad(i, items[row].length)) return found(2);
        int bits = lanes[row] == 0 ? 8 : lanes[row] == 1 ? 16 : 32;
        items[row][i] = v << 32 - bits >> 32 - bits;
        return fine(items[row][i]);
    }

    int copy(int a, int i, int b, int j, int n) {
        if (bad(a, 8) || bad(b, 8)) return BAD;
        if (items[a] == null || items[b] == null) return found(1);
        if (lanes[a] != lanes[b]) return found(5);
        if (beyond(a, i, n) || beyond(b, j, n)) return found(2);
        int[] ahead = items[a].clone();
        for (int x = 0; x < n; x++) items[b][j + x] = ahead[i + x];
        return fine(n);
    }

    int drop(int row) {
        if (bad(row, 8)) return BAD;
        if (items[row] == null) return found(1);
        int had = items[row].length;
        items[row] = null;
        return fine(had);
    }

    int cover(int place, int row, int i, int n, int k) {
        if (bad(place, 10) || bad(row, 8) || bad(n - 1, 12) || bad(k - 1, 8)) return BAD;
        if (items[row] == null) return found(1);
        if (beyond(row, i, n * (k - 1))) return found(2);
        int[][] turns = new int[k][n];
        for (int j = 0; j < k - 1; j++) {
            Set<Integer> met = new HashSet<>();
            for (int x = 0; x < n; x++) {
                turns[j][x] = items[row][i + j * n + x];
                if (bad(turns[j][x], n) || !met.add(turns[j][x])) return BAD;
            }
        }
        for (int x = 0; x < n; x++) {
            int y = x;
            for (int j = 0; j < k - 1; j++) y = turns[j][y];
            turns[k - 1][y] = x;
        }
        return shelve(place, turns);
    }

    int part(int to, int place, int p) {
        if (bad(to, 10) || bad(place, 10)) return BAD;
        if (shelf[place] == null) return found(1);
        List<List<Integer>> parts = partsOf(shelf[place]);
        if (bad(p, parts.size())) return BAD;
        List<Integer> sheets = parts.get(p);
        int[][] turns = new int[shelf[place].length][sheets.size()];
        for (int j = 0; j < turns.length; j++) {
            for (int x = 0; x < sheets.size(); x++) turns[j][x] = sheets.indexOf(shelf[place][j][sheets.get(x)]);
        }
        return shelve(to, turns);
    }

    int name(int to, int place) {
        if (bad(to, 10) || bad(place, 10)) return BAD;
        if (shelf[place] == null) return found(1);
        if (!whole(shelf[place])) return found(3);
        return shelve(to, leastName(shelf[place]));
    }

    int between(int to, int place, int a, int b) {
        if (bad(to, 10) || bad(place, 10)) return BAD;
        int[][] c = shelf[place];
        if (c == null) return found(1);
        if (!whole(c)) return found(3);
        if (bad(a, c[0].length) || bad(b, c[0].length)) return BAD;
        List<List<Integer>> blocks = blocksOf(c, a, b);
        int[][] turns = new int[c.length][blocks.size()];
        for (int j = 0; j < c.length; j++) {
            for (int x = 0; x < blocks.size(); x++) turns[j][x] = holding(blocks, c[j][blocks.get(x).get(0)]);
        }
        return shelve(to, turns);
    }

    int braid(int to, int place, int j, int how) {
        if (bad(to, 10) || bad(place, 10) || bad(how, 2)) return BAD;
        if (shelf[place] == null) return found(1);
        if (bad(j, shelf[place].length - 1)) return BAD;
        return shelve(to, how == 0 ? forward(shelf[place], j) : back(shelf[place], j));
    }

    int turn(int to, int place, int how) {
        if (bad(to, 10) || bad(place, 10) || bad(how, 2)) return BAD;
        int[][] c = shelf[place];
        if (c == null) return found(1);
        if (how == 1) return c.length != 3 ? found(3) : shelve(to, forward(c, 0));
        int[][] turns = new int[c.length][];
        for (int j = 0; j < c.length; j++) turns[c.length - 1 - j] = inverse(c[j]);
        return shelve(to, turns);
    }

    int over(int to, int a, int b) {
        if (bad(to, 10) || bad(a, 10) || bad(b, 10)) return BAD;
        int[][] c = shelf[a];
        int[][] d = shelf[b];
        if (c == null || d == null) return found(1);
        if (c.length != d.length) return BAD;
        int n = d[0].length;
        if (c[0].length * n > 12) return FULL;
        int[][] turns = new int[c.length][c[0].length * n];
        for (int j = 0; j < c.length; j++) {
            for (int z = 0; z < turns[j].length; z++) turns[j][z] = c[j][z / n] * n + d[j][z % n];
        }
        return shelve(to, turns);
    }

    int clear(int place) {
        if (bad(place, 10)) return BAD;
        int had = shelf[place] == null ? 0 : 1;
        shelf[place] = null;
        return had;
    }

    int told(int place, int what) {
        if (bad(place, 10) || bad(what, 6)) return BAD;
        int[][] c = shelf[place];
        if (c == null) return found(1);
        if ((what == 3 || what == 4) && !whole(c)) return found(3);
        if (what == 0) return fine(c[0].length);
        if (what == 1) return fine(c.length);
        if (what == 2) return fine(partsOf(c).size());
        if (what == 3) return fine(holes(c));
        if (what == 4) return fine(likes(c));
        return fine(heap(c));
    }

    int leads(int place, int turn, int sheet) {
        if (bad(place, 10)) return BAD;
        if (shelf[place] == null) return found(1);
        if (bad(turn, shelf[place].length) || bad(sheet, shelf[place][0].length)) return BAD;
        return fine(shelf[place][turn][sheet]);
    }

    int shape(int place, int turn, int i) {
        if (bad(place, 10)) return BAD;
        if (shelf[place] == null) return found(1);
        if (bad(turn, shelf[place].length)) return BAD;
        List<Integer> shape = shapeOf(shelf[place][turn]);
        return fine(bad(i, shape.size()) ? NONE : shape.get(i));
    }

    int block(int place, int a, int b, int sheet) {
        if (bad(place, 10)) return BAD;
        int[][] c = shelf[place];
        if (c == null) return found(1);
        if (!whole(c)) return found(3);
        if (bad(a, c[0].length) || bad(b, c[0].length) || bad(sheet + 1, c[0].length + 1)) return BAD;
        List<List<Integer>> blocks = blocksOf(c, a, b);
        return fine(sheet == -1 ? blocks.size() : holding(blocks, sheet));
    }

    int same(int a, int b) {
        if (bad(a, 10) || bad(b, 10)) return BAD;
        if (shelf[a] == null) return found(1);
        if (!whole(shelf[a])) return found(3);
        if (shelf[b] == null) return found(1);
        if (!whole(shelf[b])) return found(3);
        return fine(like(shelf[a], shelf[b]) ? 1 : 0);
    }

    int ring(int place) {
        if (bad(place, 10)) return BAD;
        if (shelf[place] == null) return found(1);
        if (!whole(shelf[place])) return found(3);
        Set<List<Integer>> met = new HashSet<>();
        List<int[][]> names = new ArrayList<>();
        names.add(leastName(shelf[place]));
        met.add(rowOf(names.get(0)));
        for (int i = 0; i < names.size(); i++) {
            for (int j = 0; j < names.get(i).length - 1; j++) {
                int[][] next = leastName(forward(names.get(i), j));
                if (met.add(rowOf(next))) names.add(next);
            }
            if (names.size() > 300) return FULL;
        }
        return fine(names.size());
    }

    int lift(int place, int row, int i, int m, int sheet) {
        if (bad(place, 10) || bad(row, 8) || bad(m, 97)) return BAD;
        if (shelf[place] == null || items[row] == null) return found(1);
        if (beyond(row, i, m)) return found(2);
        int[][] c = shelf[place];
        if (bad(sheet, c[0].length)) return BAD;
        for (int x = i; x < i + m; x++) {
            long item = items[row][x];
            if (item == 0 || Math.abs(item) > c.length) return BAD;
            sheet = item > 0 ? c[(int) item - 1][sheet] : inverse(c[(int) -item - 1])[sheet];
        }
        return fine(sheet);
    }

    int kind(int place) {
        if (bad(place, 10)) return BAD;
        return shelf[place] == null ? found(1) : fine(kindOf(shelf[place]));
    }

    int is(int place, int kind) {
        if (bad(place, 10) || bad(kind, 5)) return BAD;
        return shelf[place] != null && kinds(kindOf(shelf[place])).contains(kind) ? 1 : 0;
    }

    int as(int place, int kind) {
        if (bad(place, 10) || bad(kind, 5)) return BAD;
        if (shelf[place] == null) return found(1);
        return kinds(kindOf(shelf[place])).contains(kind) ? fine(shelf[place][0].length) : found(3);
    }

    int ask(int place, int what) {
        if (bad(place, 10) || bad(what, 2)) return BAD;
        traced.clear();
        if (shelf[place] == null) return found(1);
        return fine(what == 0 ? size(shelf[place]) : mark(shelf[place]));
    }

    int trace(int i) {
        return bad(i, traced.size()) ? NONE : traced.get(i);
    }

    int count(int what) {
        if (bad(what, 7)) return BAD;
        int many = 0;
        if (what == 0) for (int[] row : items) many += row == null ? 0 : 1;
        else for (int[][] c : shelf) {
            if (c != null && (what == 6 ? whole(c) : kinds(kindOf(c)).contains(what - 1))) many++;
        }
        return many;
    }

    int status() {
        return finding;
    }

    // ---- counted over all orders

    static Map<List<Integer>, Long> joinsOfAll(int n, int m) {
        Map<List<Integer>, Long> ways = new HashMap<>();
        List<Integer> still = new ArrayList<>();
        for (int x = 0; x < n; x++) still.add(x);
        ways.put(still, 1L);
        for (int step = 0; step < m; step++) {
            Map<List<Integer>, Long> next = new HashMap<>();
            for (Map.Entry<List<Integer>, Long> e : ways.entrySet()) {
                for (int a = 0; a < n; a++) {
                    for (int b = a + 1; b < n; b++) {
                        List<Integer> order = new ArrayList<>(e.getKey());
                        Collections.swap(order, a, b);
                        next.merge(order, e.getValue(), Long::sum);
                    }
                }
            }
            ways = next;
        }
        return ways;
    }

    static List<List<Integer>> shapesOf(int n) {
        List<List<Integer>> all = new ArrayList<>();
        laidOut(n, n, new ArrayList<>(), all);
        all.sort((p, q) -> {
            for (int i = 0; i < Math.min(p.size(), q.size()); i++) {
                if (!p.get(i).equals(q.get(i))) return q.get(i) - p.get(i);
            }
            return q.size() - p.size();
        });
        return all;
    }

    private static void laidOut(int rest, int most, List<Integer> ahead, List<List<Integer>> all) {
        if (rest == 0) all.add(new ArrayList<>(ahead));
        for (int length = 1; length <= Math.min(rest, most); length++) {
            ahead.add(length);
            laidOut(rest - length, length, ahead, all);
            ahead.remove(ahead.size() - 1);
        }
    }

    /** An order of that SHAPE. */
    static List<Integer> orderOf(List<Integer> shape) {
        List<Integer> order = new ArrayList<>();
        for (int length : shape) {
            int from = order.size();
            for (int x = 0; x < length; x++) order.add(from + (x + 1) % length);
        }
        return order;
    }

    // ---- terms

    private static boolean bad(int number, int bound) {
        return number < 0 || number >= bound;
    }

    private boolean beyond(int row, int i, int n) {
        return i < 0 || n < 0 || (long) i + n > items[row].length;
    }

    private int found(int number) {
        finding = number;
        return -1000010 - number;
    }

    private int fine(int answer) {
        finding = 0;
        return answer;
    }

    private int shelve(int place, int[][] turns) {
        shelf[place] = turns;
        return fine(kindOf(turns));
    }

    private static int[] inverse(int[] t) {
        int[] back = new int[t.length];
        for (int x = 0; x < t.length; x++) back[t[x]] = x;
        return back;
    }

    private static int[][] forward(int[][] c, int j) {
        int[][] turns = c.clone();
        turns[j] = c[j + 1];
        turns[j + 1] = new int[c[0].length];
        for (int x = 0; x < c[0].length; x++) turns[j + 1][x] = c[j + 1][c[j][inverse(c[j + 1])[x]]];
        return turns;
    }

    private static int[][] back(int[][] c, int j) {
        int[][] turns = c.clone();
        turns[j + 1] = c[j];
        turns[j] = new int[c[0].length];
        for (int x = 0; x < c[0].length; x++) turns[j][x] = inverse(c[j])[c[j + 1][c[j][x]]];
        return turns;
    }

    static List<Integer> shapeOf(int[] turn) {
        List<Integer> lengths = new ArrayList<>();
        boolean[] met = new boolean[turn.length];
        for (int x = 0; x < turn.length; x++) {
            int length = 0;
            for (int y = x; !met[y]; y = turn[y]) {
                met[y] = true;
                length++;
            }
            if (length > 0) lengths.add(length);
        }
        lengths.sort(Collections.reverseOrder());
        return lengths;
    }

    private static int kindOf(int[][] c) {
        int n = c[0].length;
        if (c.length == 3) {
            for (int length : shapeOf(c[2])) if (length != 2) return 2;
            return shapeOf(c[1]).size() == 1 ? 4 : 3;
        }
        if (c.length < 2) return 0;
        for (int j = 0; j < c.length - 1; j++) {
            int moved = 0;
            for (int x = 0; x < n; x++) moved += c[j][x] == x ? 0 : 1;
            if (moved != 2) return 0;
        }
        return 1;
    }

    private static List<Integer> kinds(int told) {
        return Arrays.asList(new Integer[][] {{0}, {0, 1}, {0, 2}, {0, 2, 3}, {0, 2, 3, 4}}[told]);
    }

    /** Groups of a relation: it is closed by going through it until nothing changes. */
    private static List<List<Integer>> groups(boolean[][] near) {
        int n = near.length;
        for (int y = 0; y < n; y++) {
            for (int x = 0; x < n; x++) {
                for (int z = 0; z < n; z++) near[x][z] |= near[x][y] && near[y][z];
            }
        }
        List<List<Integer>> groups = new ArrayList<>();
        for (int x = 0; x < n; x++) {
            List<Integer> group = new ArrayList<>();
            for (int z = 0; z < n; z++) if (near[x][z]) group.add(z);
            if (group.get(0) == x) groups.add(group);
        }
        return groups;
    }

    private static List<List<Integer>> partsOf(int[][] c) {
        boolean[][] near = new boolean[c[0].length][c[0].length];
        for (int x = 0; x < c[0].length; x++) {
            near[x][x] = true;
            for (int[] t : c) near[x][t[x]] = near[t[x]][x] = true;
        }
        return groups(near);
    }

    private static boolean whole(int[][] c) {
        return partsOf(c).size() == 1;
    }

    private static List<List<Integer>> blocksOf(int[][] c, int a, int b) {
        int n = c[0].length;
        boolean[][] near = new boolean[n][n];
        for (int x = 0; x < n; x++) near[x][x] = true;
        near[a][b] = near[b][a] = true;
        List<List<Integer>> blocks = groups(near);
        for (int size = 0; size != blocks.size();) {
            size = blocks.size();
            for (int[] t : c) {
                for (int x = 0; x < n; x++) for (int y = 0; y < n; y++) near[t[x]][t[y]] |= near[x][y];
            }
            blocks = groups(near);
        }
        return blocks;
    }

    private static int holding(List<List<Integer>> groups, int sheet) {
        for (int i = 0; i < groups.size(); i++) if (groups.get(i).contains(sheet)) return i;
        return -1;
    }

    private static int holes(int[][] c) {
        int n = c[0].length;
        int sum = 2 - 2 * n;
        for (int[] t : c) sum += n - shapeOf(t).size();
        if (sum % 2 != 0 || sum < 0) throw new IllegalStateException("HOLES must be whole");
        return sum / 2;
    }

    private static int[][] nameFrom(int[][] c, int start) {
        List<Integer> olds = new ArrayList<>();
        olds.add(start);
        for (int x = 0; x < olds.size(); x++) {
            for (int[] t : c) if (!olds.contains(t[olds.get(x)])) olds.add(t[olds.get(x)]);
        }
        int[][] named = new int[c.length][c[0].length];
        for (int j = 0; j < c.length; j++) {
            for (int x = 0; x < c[0].length; x++) named[j][x] = olds.indexOf(c[j][olds.get(x)]);
        }
        return named;
    }

    private static List<Integer> rowOf(int[][] c) {
        List<Integer> row = new ArrayList<>();
        for (int[] t : c) for (int y : t) row.add(y);
        return row;
    }

    private static boolean less(List<Integer> a, List<Integer> b) {
        for (int i = 0; i < a.size(); i++) if (!a.get(i).equals(b.get(i))) return a.get(i) < b.get(i);
        return false;
    }

    private static int[][] leastName(int[][] c) {
        int[][] least = nameFrom(c, 0);
        for (int x = 1; x < c[0].length; x++) {
            int[][] named = nameFrom(c, x);
            if (less(rowOf(named), rowOf(least))) least = named;
        }
        return least;
    }

    private static int likes(int[][] c) {
        List<Integer> least = rowOf(leastName(c));
        int many = 0;
        for (int x = 0; x < c[0].length; x++) if (rowOf(nameFrom(c, x)).equals(least)) many++;
        return many;
    }

    /** By the definition, all namings being tried; where they are too many, by those that begin at each SHEET. */
    private static boolean like(int[][] c, int[][] d) {
        int n = c[0].length;
        if (c.length != d.length || n != d[0].length) return false;
        if (n <= 6) return anyNaming(c, d, new int[n], 0, 0);
        for (int x = 0; x < n; x++) if (rowOf(nameFrom(d, x)).equals(rowOf(nameFrom(c, 0)))) return true;
        return false;
    }

    private static boolean anyNaming(int[][] c, int[][] d, int[] names, int given, int used) {
        int n = names.length;
        if (given < n) {
            for (int x = 0; x < n; x++) {
                names[given] = x;
                if ((used >> x & 1) == 0 && anyNaming(c, d, names, given + 1, used | 1 << x)) return true;
            }
            return false;
        }
        for (int j = 0; j < c.length; j++) {
            for (int x = 0; x < n; x++) if (names[c[j][x]] != d[j][names[x]]) return false;
        }
        return true;
    }

    private static int heap(int[][] c) {
        Set<List<Integer>> met = new HashSet<>();
        List<List<Integer>> orders = new ArrayList<>();
        List<Integer> still = new ArrayList<>();
        for (int x = 0; x < c[0].length; x++) still.add(x);
        orders.add(still);
        met.add(still);
        for (int i = 0; i < orders.size(); i++) {
            for (int[] t : c) {
                List<Integer> next = new ArrayList<>();
                for (int y : orders.get(i)) next.add(t[y]);
                if (met.add(next)) orders.add(next);
            }
            if (orders.size() > MOST_ORDERS) return UNKNOWN;
        }
        return orders.size();
    }

    private int size(int[][] c) {
        return sizeBody(c, new int[] {10, 11, 12, 13, 14}[kindOf(c)]);
    }

    private int sizeBody(int[][] c, int body) {
        traced.add(body);
        switch (body) {
            case 10: return c[0].length;
            case 11: return sizeBody(c, 10) + c.length;
            case 12: return sizeBody(c, 10) + shapeOf(c[0]).size();
            case 13: return 2 * sizeBody(c, 12);
            default: {
                int given = sizeBody(c, 13);
                return given + mark(c);
            }
        }
    }

    private int mark(int[][] c) {
        return markBody(c, new int[] {20, 20, 21, 21, 22}[kindOf(c)]);
    }

    private int markBody(int[][] c, int body) {
        traced.add(body);
        switch (body) {
            case 20: return partsOf(c).size();
            case 21: return markBody(c, 20) + 100;
            default: return markBody(c, 21) + shapeOf(c[2]).size();
        }
    }
}
