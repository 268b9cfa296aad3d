import java.util.Arrays;

public final class SphereSheets {
    public static final int NONE = -1000000, BAD = -1000001, FULL = -1000003;

    private static final int FINDINGS = -1000010;
    private static final int NULL = 1, PLACE = 2, KIND = 3, SIZE = 4, STORE = 5;

    private static final int ROWS = 8, ITEMS = 96, INTS = 2;
    private static final int PLACES = 10, MOST_SHEETS = 12, MOST_TURNS = 8;
    private static final int KINDS = 5, TRACED = 16;
    private static final int MOST_JOINED = 10, MOST_EXCHANGES = 9;

    private final Row[] rows;
    private final Cover[] shelf;
    private final Row traced;
    private final Namer namer;
    private final Ring rings;
    private final Heap heap;
    private final Shapes shapesListed;
    private int finding;

    public SphereSheets() {
        rows = new Row[ROWS];
        for (int i = 0; i < ROWS; i++) {
            rows[i] = new Row(ITEMS);
        }
        shelf = new Cover[PLACES];
        traced = new Row(TRACED);
        traced.begin(INTS, 0);
        namer = new Namer();
        rings = new Ring();
        heap = new Heap();
        shapesListed = new Shapes();
    }

    // ---- rows

    public int row(int row, int lane, int n) {
        if (noRow(row) || lane < 0 || lane > INTS || n > ITEMS) {
            return BAD;
        }
        if (n < 0) {
            return found(SIZE);
        }
        rows[row].begin(lane, n);
        return fine(n);
    }

    public int set(int row, int i, int v) {
        if (noRow(row)) {
            return BAD;
        }
        Row items = rows[row];
        if (items.missing()) {
            return found(NULL);
        }
        if (!items.holds(i, 1)) {
            return found(PLACE);
        }
        return fine(items.put(i, v));
    }

    public int copy(int a, int i, int b, int j, int n) {
        if (noRow(a) || noRow(b)) {
            return BAD;
        }
        Row from = rows[a];
        Row to = rows[b];
        if (from.missing() || to.missing()) {
            return found(NULL);
        }
        if (from.lane != to.lane) {
            return found(STORE);
        }
        if (!from.holds(i, n) || !to.holds(j, n)) {
            return found(PLACE);
        }
        to.take(j, from, i, n);
        return fine(n);
    }

    public int drop(int row) {
        if (noRow(row)) {
            return BAD;
        }
        Row items = rows[row];
        if (items.missing()) {
            return found(NULL);
        }
        int had = items.size;
        items.end();
        return fine(had);
    }

    // ---- covers

    public int cover(int place, int row, int i, int n, int k) {
        if (noPlace(place) || noRow(row) || n < 1 || n > MOST_SHEETS || k < 1 || k > MOST_TURNS) {
            return BAD;
        }
        Row items = rows[row];
        if (items.missing()) {
            return found(NULL);
        }
        if (!items.holds(i, n * (k - 1))) {
            return found(PLACE);
        }
        long[] turns = new long[k];
        long all = Orders.still(n);
        for (int j = 0; j < k - 1; j++) {
            turns[j] = items.orderFrom(i + j * n, n);
            if (turns[j] == Orders.NO_ORDER) {
                return BAD;
            }
            all = Orders.behind(all, turns[j], n);
        }
        turns[k - 1] = Orders.inverse(all, n);
        return shelve(place, Cover.of(n, turns));
    }

    public int part(int to, int place, int p) {
        if (noPlace(to) || noPlace(place)) {
            return BAD;
        }
        Cover ground = shelf[place];
        if (ground == null) {
            return found(NULL);
        }
        if (p < 0 || p >= ground.parts) {
            return BAD;
        }
        return shelve(to, ground.partAlone(p));
    }

    public int name(int to, int place) {
        if (noPlace(to) || noPlace(place)) {
            return BAD;
        }
        Cover ground = shelf[place];
        if (ground == null) {
            return found(NULL);
        }
        if (!ground.whole()) {
            return found(KIND);
        }
        namer.find(ground.turns, ground.n);
        return shelve(to, Cover.of(ground.n, Arrays.copyOf(namer.least, ground.turns.length)));
    }

    public int between(int to, int place, int a, int b) {
        if (noPlace(to) || noPlace(place)) {
            return BAD;
        }
        Cover ground = shelf[place];
        if (ground == null) {
            return found(NULL);
        }
        if (!ground.whole()) {
            return found(KIND);
        }
        if (ground.noSheet(a) || ground.noSheet(b)) {
            return BAD;
        }
        return shelve(to, ground.ofBlocks(a, b));
    }

    public int braid(int to, int place, int j, int how) {
        if (noPlace(to) || noPlace(place) || how < 0 || how > 1) {
            return BAD;
        }
        Cover ground = shelf[place];
        if (ground == null) {
            return found(NULL);
        }
        if (j < 0 || j >= ground.turns.length - 1) {
            return BAD;
        }
        return shelve(to, ground.ledPast(j, how == 0));
    }

    public int turn(int to, int place, int how) {
        if (noPlace(to) || noPlace(place) || how < 0 || how > 1) {
            return BAD;
        }
        Cover ground = shelf[place];
        if (ground == null) {
            return found(NULL);
        }
        if (how == 0) {
            return shelve(to, ground.mirror());
        }
        if (!(ground instanceof Three)) {
            return found(KIND);
        }
        return shelve(to, ground.ledPast(0, true));
    }

    public int over(int to, int a, int b) {
        if (noPlace(to) || noPlace(a) || noPlace(b)) {
            return BAD;
        }
        Cover one = shelf[a];
        Cover other = shelf[b];
        if (one == null || other == null) {
            return found(NULL);
        }
        if (one.turns.length != other.turns.length) {
            return BAD;
        }
        if (one.n * other.n > MOST_SHEETS) {
            return FULL;
        }
        return shelve(to, one.laidOver(other));
    }

    public int clear(int place) {
        if (noPlace(place)) {
            return BAD;
        }
        int had = shelf[place] == null ? 0 : 1;
        shelf[place] = null;
        return had;
    }

    // ---- asked

    public int told(int place, int what) {
        if (noPlace(place) || what < 0 || what > 5) {
            return BAD;
        }
        Cover ground = shelf[place];
        if (ground == null) {
            return found(NULL);
        }
        if ((what == 3 || what == 4) && !ground.whole()) {
            return found(KIND);
        }
        return fine(tellOf(ground, what));
    }

    public int leads(int place, int turn, int sheet) {
        if (noPlace(place)) {
            return BAD;
        }
        Cover ground = shelf[place];
        if (ground == null) {
            return found(NULL);
        }
        if (ground.noTurn(turn) || ground.noSheet(sheet)) {
            return BAD;
        }
        return fine(Orders.at(ground.turnAt(turn), sheet));
    }

    public int shape(int place, int turn, int i) {
        if (noPlace(place)) {
            return BAD;
        }
        Cover ground = shelf[place];
        if (ground == null) {
            return found(NULL);
        }
        if (ground.noTurn(turn)) {
            return BAD;
        }
        return fine(Shapes.lengthAt(Shapes.lengthsOf(ground.turnAt(turn), ground.n), i));
    }

    public int block(int place, int a, int b, int sheet) {
        if (noPlace(place)) {
            return BAD;
        }
        Cover ground = shelf[place];
        if (ground == null) {
            return found(NULL);
        }
        if (!ground.whole()) {
            return found(KIND);
        }
        if (ground.noSheet(a) || ground.noSheet(b) || sheet != -1 && ground.noSheet(sheet)) {
            return BAD;
        }
        long labels = ground.blockLabels(a, b);
        if (sheet == -1) {
            return fine(Orders.groups(labels, ground.n));
        }
        return fine(Orders.groups(labels, Orders.at(labels, sheet)));
    }

    public int same(int a, int b) {
        if (noPlace(a) || noPlace(b)) {
            return BAD;
        }
        Cover one = shelf[a];
        Cover other = shelf[b];
        if (one == null) {
            return found(NULL);
        }
        if (!one.whole()) {
            return found(KIND);
        }
        if (other == null) {
            return found(NULL);
        }
        if (!other.whole()) {
            return found(KIND);
        }
        return fine(alike(one, other) ? 1 : 0);
    }

    public int ring(int place) {
        if (noPlace(place)) {
            return BAD;
        }
        Cover ground = shelf[place];
        if (ground == null) {
            return found(NULL);
        }
        if (!ground.whole()) {
            return found(KIND);
        }
        int names = rings.walk(ground);
        return names == Ring.TOO_MANY ? FULL : fine(names);
    }

    public int lift(int place, int row, int i, int m, int sheet) {
        if (noPlace(place) || noRow(row) || m < 0 || m > ITEMS) {
            return BAD;
        }
        Cover ground = shelf[place];
        Row way = rows[row];
        if (ground == null || way.missing()) {
            return found(NULL);
        }
        if (!way.holds(i, m)) {
            return found(PLACE);
        }
        if (ground.noSheet(sheet)) {
            return BAD;
        }
        int at = sheet;
        for (int step = 0; step < m; step++) {
            int item = way.item(i + step);
            if (ground.noStep(item)) {
                return BAD;
            }
            at = ground.stepped(item, at);
        }
        return fine(at);
    }

    public int kind(int place) {
        if (noPlace(place)) {
            return BAD;
        }
        Cover ground = shelf[place];
        return ground == null ? found(NULL) : fine(ground.kindNumber());
    }

    public int is(int place, int kind) {
        if (noPlace(place) || kind < 0 || kind >= KINDS) {
            return BAD;
        }
        return ofKind(shelf[place], kind) ? 1 : 0;
    }

    public int as(int place, int kind) {
        if (noPlace(place) || kind < 0 || kind >= KINDS) {
            return BAD;
        }
        Cover ground = shelf[place];
        if (ground == null) {
            return found(NULL);
        }
        return ofKind(ground, kind) ? fine(ground.n) : found(KIND);
    }

    public int ask(int place, int what) {
        if (noPlace(place) || what < 0 || what > 1) {
            return BAD;
        }
        traced.begin(INTS, 0);
        Cover ground = shelf[place];
        if (ground == null) {
            return found(NULL);
        }
        return fine(what == 0 ? ground.sizeAsked(traced) : ground.markAsked(traced));
    }

    public int trace(int i) {
        return traced.holds(i, 1) ? traced.item(i) : NONE;
    }

    // ---- counted

    public long joins(int n, int m, int s) {
        if (n < 2 || n > MOST_JOINED || m < 0 || m > MOST_EXCHANGES) {
            return BAD;
        }
        shapesListed.prepare(n);
        return shapesListed.lacks(s) ? BAD : shapesListed.rowsOf(m, s);
    }

    public int shapes(int n, int s, int i) {
        if (n < 1 || n > MOST_JOINED) {
            return BAD;
        }
        shapesListed.prepare(n);
        if (s == NONE) {
            return shapesListed.many;
        }
        return shapesListed.lacks(s) ? BAD : Shapes.lengthAt(shapesListed.lengthsAt(s), i);
    }

    public int count(int what) {
        if (what < 0 || what > 6) {
            return BAD;
        }
        return what == 0 ? rowsThere() : coversThere(what);
    }

    public int status() {
        return finding;
    }

    // ---- helpers of the face

    private static boolean noRow(int row) {
        return row < 0 || row >= ROWS;
    }

    private static boolean noPlace(int place) {
        return place < 0 || place >= PLACES;
    }

    private int found(int number) {
        finding = number;
        return FINDINGS - number;
    }

    // An ITEM of ints may look like a refusal, so what ended well is told apart by the way here, not by the answer.
    private int fine(int answer) {
        finding = 0;
        return answer;
    }

    private int shelve(int place, Cover ground) {
        if (noPlace(place)) {
            return BAD;
        }
        shelf[place] = ground;
        return fine(ground.kindNumber());
    }

    private int tellOf(Cover ground, int what) {
        switch (what) {
            case 0:
                return ground.n;
            case 1:
                return ground.turns.length;
            case 2:
                return ground.parts;
            case 3:
                return ground.holes();
            case 4:
                namer.find(ground.turns, ground.n);
                return namer.likes;
            default:
                return heap.orders(ground);
        }
    }

    private boolean alike(Cover one, Cover other) {
        int k = one.turns.length;
        if (one.n != other.n || k != other.turns.length) {
            return false;
        }
        namer.find(one.turns, one.n);
        long[] least = Arrays.copyOf(namer.least, k);
        namer.find(other.turns, other.n);
        for (int j = 0; j < k; j++) {
            if (least[j] != namer.least[j]) {
                return false;
            }
        }
        return true;
    }

    private static boolean ofKind(Cover ground, int kind) {
        switch (kind) {
            case 1:
                return ground instanceof Simple;
            case 2:
                return ground instanceof Three;
            case 3:
                return ground instanceof Bristled;
            case 4:
                return ground instanceof One;
            default:
                return ground != null;
        }
    }

    private int rowsThere() {
        int there = 0;
        for (int i = 0; i < ROWS; i++) {
            if (!rows[i].missing()) {
                there++;
            }
        }
        return there;
    }

    private int coversThere(int what) {
        int there = 0;
        for (int place = 0; place < PLACES; place++) {
            Cover ground = shelf[place];
            if (ground != null && (what == 6 ? ground.whole() : ofKind(ground, what - 1))) {
                there++;
            }
        }
        return there;
    }

    /** A ROW, or THE TRACE; its items are made once, so that no call makes them anew. */
    private static final class Row {
        private static final int NO_LANE = -1;

        private final int[] items;
        int lane;
        int size;

        Row(int most) {
            items = new int[most];
            lane = NO_LANE;
        }

        boolean missing() {
            return lane == NO_LANE;
        }

        void begin(int newLane, int n) {
            if (n < 0 || n > items.length) {
                return;
            }
            lane = newLane;
            size = n;
            Arrays.fill(items, 0);
        }

        void end() {
            lane = NO_LANE;
            size = 0;
        }

        // The end is taken off the size, for a sum could wrap around.
        boolean holds(int from, int n) {
            return from >= 0 && n >= 0 && from <= size - n;
        }

        int item(int i) {
            return holds(i, 1) ? items[i] : 0;
        }

        int put(int i, int v) {
            if (!holds(i, 1)) {
                return 0;
            }
            items[i] = lane == 0 ? (byte) v : lane == 1 ? (short) v : v;
            return items[i];
        }

        void add(int v) {
            if (size < items.length) {
                items[size] = v;
                size++;
            }
        }

        void take(int to, Row other, int from, int n) {
            if (holds(to, n) && other.holds(from, n)) {
                System.arraycopy(other.items, from, items, to, n);
            }
        }

        long orderFrom(int from, int n) {
            long order = 0;
            int met = 0;
            for (int x = 0; x < n; x++) {
                int y = item(from + x);
                if (y < 0 || y >= n || (met >> y & 1) != 0) {
                    return Orders.NO_ORDER;
                }
                met |= 1 << y;
                order = Orders.with(order, x, y);
            }
            return order;
        }
    }

    /**
     * Up to twelve small numbers in one long, four bits each, number 0 the uppermost: so orders of SHEETS need no
     * objects, and comparing two longs compares their rows place by place. Beyond n all are 0.
     */
    private static final class Orders {
        static final long NO_ORDER = -1;
        private static final int TOP = 44;

        private Orders() {
        }

        static int at(long order, int x) {
            return (int) (order >>> TOP - 4 * x) & 15;
        }

        /** Of a place that has been 0 so far. */
        static long with(long order, int x, int y) {
            return order | (long) y << TOP - 4 * x;
        }

        static long still(int n) {
            long order = 0;
            for (int x = 0; x < n; x++) {
                order = with(order, x, x);
            }
            return order;
        }

        static long behind(long first, long second, int n) {
            long order = 0;
            for (int x = 0; x < n; x++) {
                order = with(order, x, at(second, at(first, x)));
            }
            return order;
        }

        static long inverse(long order, int n) {
            long back = 0;
            for (int x = 0; x < n; x++) {
                back = with(back, at(order, x), x);
            }
            return back;
        }

        /** Labels: each SHEET has the least one of its group; the groups of two labels become one. */
        static long merged(long labels, int a, int b, int n) {
            if (a == b) {
                return labels;
            }
            int low = Math.min(a, b);
            int high = Math.max(a, b);
            long joined = 0;
            for (int x = 0; x < n; x++) {
                int label = at(labels, x);
                joined = with(joined, x, label == high ? low : label);
            }
            return joined;
        }

        /** For each x the groups of the SHEETS that two orders lead it to become one. */
        static long mergedAlong(long labels, long first, long second, int n) {
            long joined = labels;
            for (int x = 0; x < n; x++) {
                joined = merged(joined, at(joined, at(first, x)), at(joined, at(second, x)), n);
            }
            return joined;
        }

        /** Labels of the PARTS. */
        static long ledTogether(long[] turns, int n) {
            long labels = still(n);
            for (int j = 0; j < turns.length; j++) {
                labels = mergedAlong(labels, still(n), turns[j], n);
            }
            return labels;
        }

        /** The SHEETS that bear their own label, a bit each. */
        static int leaders(long labels, int n) {
            int leaders = 0;
            for (int x = 0; x < n; x++) {
                if (at(labels, x) == x) {
                    leaders |= 1 << x;
                }
            }
            return leaders;
        }

        /** How many groups have their least SHEET below a bound; of a label: its group's number. */
        static int groups(long labels, int bound) {
            return Integer.bitCount(leaders(labels, bound));
        }

        /** How many SHEETS are together with SHEET 0. */
        static int withFirst(long labels, int n) {
            int together = 0;
            for (int x = 0; x < n; x++) {
                if (at(labels, x) == 0) {
                    together++;
                }
            }
            return together;
        }

        static void leadForward(long[] turns, int j, int n) {
            if (j < 0 || j >= turns.length - 1) {
                return;
            }
            long first = turns[j];
            long second = turns[j + 1];
            turns[j] = second;
            turns[j + 1] = behind(behind(inverse(second, n), first, n), second, n);
        }

        static void leadBack(long[] turns, int j, int n) {
            if (j < 0 || j >= turns.length - 1) {
                return;
            }
            long first = turns[j];
            long second = turns[j + 1];
            turns[j + 1] = first;
            turns[j] = behind(behind(first, second, n), inverse(first, n), n);
        }
    }

    private static class Cover {
        final int n;
        final long[] turns;
        final int parts;

        Cover(int n, long[] turns, int parts) {
            this.n = n;
            this.turns = turns;
            this.parts = parts;
        }

        static Cover of(int n, long[] turns) {
            int parts = Orders.groups(Orders.ledTogether(turns, n), n);
            if (turns.length != 3) {
                return exchangesAhead(n, turns) ? new Simple(n, turns, parts) : new Cover(n, turns, parts);
            }
            long pairs = n / 2 * Shapes.one(2);
            if (n % 2 != 0 || Shapes.lengthsOf(turns[2], n) != pairs) {
                return new Three(n, turns, parts);
            }
            if (Shapes.lengthsOf(turns[1], n) != Shapes.one(n)) {
                return new Bristled(n, turns, parts);
            }
            return new One(n, turns, parts);
        }

        private static boolean exchangesAhead(int n, long[] turns) {
            if (n < 2 || turns.length < 2) {
                return false;
            }
            long exchange = Shapes.one(2) + (n - 2) * Shapes.one(1);
            for (int j = 0; j < turns.length - 1; j++) {
                if (Shapes.lengthsOf(turns[j], n) != exchange) {
                    return false;
                }
            }
            return true;
        }

        int kindNumber() {
            return 0;
        }

        int sizeAsked(Row trace) {
            trace.add(10);
            return n;
        }

        int markAsked(Row trace) {
            trace.add(20);
            return parts;
        }

        boolean noSheet(int sheet) {
            return sheet < 0 || sheet >= n;
        }

        boolean noTurn(int turn) {
            return turn < 0 || turn >= turns.length;
        }

        long turnAt(int j) {
            return noTurn(j) ? Orders.still(n) : turns[j];
        }

        /** Of an ITEM of a WAY; neither side is negated, for the least int has no opposite. */
        boolean noStep(int item) {
            return item == 0 || item > turns.length || item < -turns.length;
        }

        int stepped(int item, int sheet) {
            if (item > 0) {
                return Orders.at(turnAt(item - 1), sheet);
            }
            return Orders.at(Orders.inverse(turnAt(-item - 1), n), sheet);
        }

        int rounds(int j) {
            return Shapes.total(Shapes.lengthsOf(turnAt(j), n));
        }

        boolean whole() {
            return parts == 1;
        }

        int holes() {
            int twice = 2 - 2 * n;
            for (int j = 0; j < turns.length; j++) {
                twice += n - rounds(j);
            }
            return twice / 2;
        }

        /** Each pass that changes something joins two groups at least, so n passes are enough. */
        long blockLabels(int a, int b) {
            long labels = Orders.merged(Orders.still(n), a, b, n);
            for (int pass = 0; pass < n; pass++) {
                long ahead = labels;
                for (int j = 0; j < turns.length; j++) {
                    // A SHEET and the least one of its BLOCK are led to one BLOCK.
                    labels = Orders.mergedAlong(labels, turns[j], Orders.behind(labels, turns[j], n), n);
                }
                if (labels == ahead) {
                    break;
                }
            }
            return labels;
        }

        Cover partAlone(int p) {
            long labels = Orders.ledTogether(turns, n);
            int members = 0;
            for (int x = 0; x < n; x++) {
                if (Orders.groups(labels, Orders.at(labels, x)) == p) {
                    members |= 1 << x;
                }
            }
            return of(Integer.bitCount(members), narrowed(members, Orders.still(n)));
        }

        Cover ofBlocks(int a, int b) {
            long labels = blockLabels(a, b);
            int leaders = Orders.leaders(labels, n);
            return of(Integer.bitCount(leaders), narrowed(leaders, labels));
        }

        /** The chosen SHEETS alone; where one is led to is told by the label there, which must be a chosen one. */
        private long[] narrowed(int chosen, long labels) {
            long[] narrow = new long[turns.length];
            for (int j = 0; j < turns.length; j++) {
                int next = 0;
                for (int x = 0; x < n; x++) {
                    if ((chosen >> x & 1) != 0) {
                        int led = Orders.at(labels, Orders.at(turns[j], x));
                        narrow[j] = Orders.with(narrow[j], next, Integer.bitCount(chosen & (1 << led) - 1));
                        next++;
                    }
                }
            }
            return narrow;
        }

        Cover ledPast(int j, boolean forward) {
            long[] led = Arrays.copyOf(turns, turns.length);
            if (forward) {
                Orders.leadForward(led, j, n);
            } else {
                Orders.leadBack(led, j, n);
            }
            return of(n, led);
        }

        Cover mirror() {
            int k = turns.length;
            long[] mirrored = new long[k];
            for (int j = 0; j < k; j++) {
                mirrored[j] = Orders.inverse(turns[k - 1 - j], n);
            }
            return of(n, mirrored);
        }

        Cover laidOver(Cover other) {
            long[] both = new long[turns.length];
            for (int j = 0; j < turns.length; j++) {
                for (int x = 0; x < n; x++) {
                    for (int y = 0; y < other.n; y++) {
                        int led = Orders.at(turns[j], x) * other.n + Orders.at(other.turnAt(j), y);
                        both[j] = Orders.with(both[j], x * other.n + y, led);
                    }
                }
            }
            return of(n * other.n, both);
        }
    }

    private static final class Simple extends Cover {
        Simple(int n, long[] turns, int parts) {
            super(n, turns, parts);
        }

        @Override
        int kindNumber() {
            return 1;
        }

        @Override
        int sizeAsked(Row trace) {
            trace.add(11);
            return super.sizeAsked(trace) + turns.length;
        }
    }

    private static class Three extends Cover {
        Three(int n, long[] turns, int parts) {
            super(n, turns, parts);
        }

        @Override
        int kindNumber() {
            return 2;
        }

        @Override
        int sizeAsked(Row trace) {
            trace.add(12);
            return super.sizeAsked(trace) + rounds(0);
        }

        @Override
        int markAsked(Row trace) {
            trace.add(21);
            return super.markAsked(trace) + 100;
        }
    }

    /** A MAP. */
    private static class Bristled extends Three {
        Bristled(int n, long[] turns, int parts) {
            super(n, turns, parts);
        }

        @Override
        int kindNumber() {
            return 3;
        }

        @Override
        int sizeAsked(Row trace) {
            trace.add(13);
            return 2 * super.sizeAsked(trace);
        }
    }

    private static final class One extends Bristled {
        One(int n, long[] turns, int parts) {
            super(n, turns, parts);
        }

        @Override
        int kindNumber() {
            return 4;
        }

        @Override
        int sizeAsked(Row trace) {
            trace.add(14);
            int size = super.sizeAsked(trace);
            return size + markAsked(trace);
        }

        @Override
        int markAsked(Row trace) {
            trace.add(22);
            return super.markAsked(trace) + rounds(2);
        }
    }

    /** Finds LEAST NAMES of WHOLE ones, and from how many SHEETS they come. */
    private static final class Namer {
        final long[] least;
        int likes;
        private long newOf;
        private long oldOf;

        Namer() {
            least = new long[MOST_TURNS];
        }

        /**
         * Two SHEETS of one NAME tell how the COVER is led onto itself: what gets the same number from both is alike,
         * too. From one of the SHEETS that are alike a NAME is enough.
         */
        void find(long[] turns, int n) {
            if (turns.length < 1 || turns.length > least.length) {
                return;
            }
            long alike = Orders.still(n);
            long leastOldOf = 0;
            for (int start = 0; start < n; start++) {
                if (Orders.at(alike, start) != start || !numberFrom(start, turns, n)) {
                    continue;
                }
                int sign = start == 0 ? -1 : againstLeast(turns, n);
                if (sign < 0) {
                    keepAsLeast(turns, n);
                    leastOldOf = oldOf;
                } else if (sign == 0) {
                    alike = Orders.mergedAlong(alike, leastOldOf, oldOf, n);
                }
            }
            // What leads a COVER onto itself leaves no SHEET or all: so each SHEET has as many that are alike to it.
            likes = Orders.withFirst(alike, n);
        }

        /**
         * Whether the NAME from there may be the least: TURN 0 is known SHEET by SHEET while numbers are given, so most
         * NAMES are seen to be greater long before all SHEETS have a number.
         */
        private boolean numberFrom(int start, long[] turns, int n) {
            newOf = 0;
            oldOf = Orders.with(0, 0, start);
            int met = 1 << start;
            int given = 1;
            boolean even = start > 0;
            for (int x = 0; x < given && given < n; x++) {
                int old = Orders.at(oldOf, x);
                for (int j = 0; j < turns.length; j++) {
                    int led = Orders.at(turns[j], old);
                    if ((met >> led & 1) == 0) {
                        met |= 1 << led;
                        newOf = Orders.with(newOf, led, given);
                        oldOf = Orders.with(oldOf, given, led);
                        given++;
                    }
                    if (even && j == 0) {
                        int sign = Orders.at(newOf, led) - Orders.at(least[0], x);
                        if (sign > 0) {
                            return false;
                        }
                        even = sign == 0;
                    }
                }
            }
            return true;
        }

        private long renamed(long turn, int n) {
            long order = 0;
            for (int x = 0; x < n; x++) {
                int led = Orders.at(turn, Orders.at(oldOf, x));
                order = Orders.with(order, x, Orders.at(newOf, led));
            }
            return order;
        }

        private int againstLeast(long[] turns, int n) {
            for (int j = 0; j < turns.length; j++) {
                int sign = Long.compare(renamed(turns[j], n), least[j]);
                if (sign != 0) {
                    return sign;
                }
            }
            return 0;
        }

        private void keepAsLeast(long[] turns, int n) {
            for (int j = 0; j < turns.length; j++) {
                least[j] = renamed(turns[j], n);
            }
        }
    }

    /** Walks RINGS; its names are made once, so that no call makes them anew. */
    private static final class Ring {
        static final int TOO_MANY = -1;
        private static final int MOST = 300;

        private final Namer namer;
        private final long[] names;
        private int many;

        Ring() {
            namer = new Namer();
            names = new long[MOST * MOST_TURNS];
        }

        /** As leading past only mixes finitely many names, going forward alone comes to all of them. */
        int walk(Cover ground) {
            int k = ground.turns.length;
            long[] led = new long[k];
            many = 0;
            namer.find(ground.turns, ground.n);
            keep(k);
            for (int i = 0; i < many && i < MOST; i++) {
                for (int j = 0; j < k - 1; j++) {
                    System.arraycopy(names, i * MOST_TURNS, led, 0, k);
                    Orders.leadForward(led, j, ground.n);
                    namer.find(led, ground.n);
                    if (known(k)) {
                        continue;
                    }
                    if (many >= MOST) {
                        return TOO_MANY;
                    }
                    keep(k);
                }
            }
            return many;
        }

        private void keep(int k) {
            if (many < MOST && k <= MOST_TURNS) {
                System.arraycopy(namer.least, 0, names, many * MOST_TURNS, k);
                many++;
            }
        }

        private boolean known(int k) {
            for (int i = 0; i < many; i++) {
                if (isLeastAt(i * MOST_TURNS, k)) {
                    return true;
                }
            }
            return false;
        }

        private boolean isLeastAt(int from, int k) {
            for (int j = 0; j < k; j++) {
                if (names[from + j] != namer.least[j]) {
                    return false;
                }
            }
            return true;
        }
    }

    /**
     * Counts THE HEAP by a sieve: for each level x, orders that leave all below x and lead x to y. When products of all
     * that are kept pass through, each order of THE HEAP is one choice a level.
     */
    private static final class Heap {
        private static final int MOST_KEPT = MOST_SHEETS * (MOST_SHEETS - 1) / 2;

        private final long[] kept;
        private final long[] backs;
        private int many;

        Heap() {
            kept = new long[MOST_KEPT];
            backs = new long[MOST_SHEETS * MOST_SHEETS];
        }

        int orders(Cover ground) {
            int n = ground.n;
            many = 0;
            Arrays.fill(backs, 0);
            for (int j = 0; j < ground.turns.length; j++) {
                sift(ground.turns[j], n);
            }
            for (int a = 0; a < many && a < MOST_KEPT; a++) {
                for (int b = 0; b <= a; b++) {
                    sift(Orders.behind(kept[a], kept[b], n), n);
                    sift(Orders.behind(kept[b], kept[a], n), n);
                }
            }
            return product(n);
        }

        /** What comes to an empty place is kept there; 0 is empty, for of two SHEETS or more no order is 0. */
        private void sift(long order, int n) {
            long left = order;
            for (int x = 0; x < n; x++) {
                int y = Orders.at(left, x);
                if (y == x) {
                    continue;
                }
                int place = x * MOST_SHEETS + y;
                if (place >= backs.length || many >= kept.length && backs[place] == 0) {
                    return;
                }
                if (backs[place] == 0) {
                    backs[place] = Orders.inverse(left, n);
                    kept[many] = left;
                    many++;
                    return;
                }
                left = Orders.behind(left, backs[place], n);
            }
        }

        private int product(int n) {
            int product = 1;
            for (int x = 0; x < n; x++) {
                int choices = 1;
                for (int y = x + 1; y < n; y++) {
                    if (backs[x * MOST_SHEETS + y] != 0) {
                        choices++;
                    }
                }
                product *= choices;
            }
            return product;
        }
    }

    /**
     * SHAPES: in one long, for each length how often it is there, four bits each, the longest uppermost: so the greater
     * row of lengths is the greater long, and cutting and joining are sums. All those of one n and their JOINS are kept
     * until another n is wanted.
     */
    private static final class Shapes {
        private static final int MOST = 42;

        private final long[] list;
        private final long[] ways;
        private int listedFor;
        int many;

        Shapes() {
            list = new long[MOST];
            ways = new long[(MOST_EXCHANGES + 1) * MOST];
        }

        static long one(int length) {
            return 1L << 4 * (length - 1);
        }

        static int times(long lengths, int length) {
            return (int) (lengths >>> 4 * (length - 1)) & 15;
        }

        static long lengthsOf(long order, int n) {
            long lengths = 0;
            int met = 0;
            for (int x = 0; x < n; x++) {
                int length = 0;
                int y = x;
                for (int step = 0; step < n && (met >> y & 1) == 0; step++) {
                    met |= 1 << y;
                    y = Orders.at(order, y);
                    length++;
                }
                if (length > 0) {
                    lengths += one(length);
                }
            }
            return lengths;
        }

        static int total(long lengths) {
            int total = 0;
            for (int length = 1; length <= MOST_SHEETS; length++) {
                total += times(lengths, length);
            }
            return total;
        }

        static int lengthAt(long lengths, int i) {
            if (i < 0) {
                return NONE;
            }
            int ahead = 0;
            for (int length = MOST_SHEETS; length >= 1; length--) {
                ahead += times(lengths, length);
                if (i < ahead) {
                    return length;
                }
            }
            return NONE;
        }

        boolean lacks(int s) {
            return s < 0 || s >= many;
        }

        long lengthsAt(int s) {
            return lacks(s) ? 0 : list[s];
        }

        long rowsOf(int m, int s) {
            return lacks(s) || m < 0 || m > MOST_EXCHANGES ? 0 : ways[m * MOST + s];
        }

        void prepare(int n) {
            if (n == listedFor || n < 1 || n > MOST_JOINED) {
                return;
            }
            listedFor = n;
            listAll(n);
            // Without an exchange only the order that leaves all SHEETS is made; its SHAPE is the last.
            Arrays.fill(ways, 0);
            if (many > 0) {
                ways[many - 1] = 1;
            }
            for (int m = 1; m <= MOST_EXCHANGES; m++) {
                for (int s = 0; s < many; s++) {
                    ways[m * MOST + s] = cutAndJoined(list[s], m - 1, n);
                }
            }
        }

        private void listAll(int n) {
            long lengths = one(n);
            many = 0;
            for (int s = 0; s < MOST && lengths != 0; s++) {
                list[s] = lengths;
                many++;
                lengths = nextBelow(lengths, n);
            }
        }

        /** The least length above 1 is lessened by 1; what it and the ones held is laid out anew; 0: none is left. */
        private long nextBelow(long lengths, int n) {
            int ones = times(lengths, 1);
            for (int length = 2; length <= n; length++) {
                if (times(lengths, length) > 0) {
                    int room = length + ones;
                    int rest = room % (length - 1);
                    long next = lengths - one(length) - ones * one(1);
                    next += room / (length - 1) * one(length - 1);
                    return rest > 0 ? next + one(rest) : next;
                }
            }
            return 0;
        }

        /** One exchange ahead: it cuts a ROUND in two, or joins two ROUNDS. */
        private long cutAndJoined(long lengths, int m, int n) {
            long sum = 0;
            for (int a = 1; a <= n; a++) {
                int rounds = times(lengths, a);
                if (rounds == 0) {
                    continue;
                }
                sum += rounds * cut(lengths, a, m);
                for (int b = a; b <= n; b++) {
                    int pairs = a == b ? rounds * (rounds - 1) / 2 : rounds * times(lengths, b);
                    if (pairs > 0) {
                        long whole = lengths - one(a) - one(b) + one(a + b);
                        sum += pairs * a * b * rowsOf(m, indexOf(whole));
                    }
                }
            }
            return sum;
        }

        /** Of one ROUND: two SHEETS that lie d apart cut it there; those that lie halfway are met from both ends. */
        private long cut(long lengths, int a, int m) {
            long sum = 0;
            for (int d = 1; 2 * d <= a; d++) {
                int exchanges = 2 * d == a ? d : a;
                long halves = lengths - one(a) + one(d) + one(a - d);
                sum += exchanges * rowsOf(m, indexOf(halves));
            }
            return sum;
        }

        private int indexOf(long lengths) {
            for (int s = 0; s < many; s++) {
                if (list[s] == lengths) {
                    return s;
                }
            }
            return NONE;
        }
    }
}
