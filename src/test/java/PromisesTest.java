/** Each promise by itself: ordinary calls, the edges that the document names, wrong numbers. */
public final class PromisesTest {
    private static final int NONE = -1000000, BAD = -1000001, FULL = -1000003;
    private static final int NULL = -1000011, PLACE = -1000012, KIND = -1000013, SIZE = -1000014, STORE = -1000015;
    private static final int LEAST = Integer.MIN_VALUE, MOST = Integer.MAX_VALUE;

    private static int promise = 0, call = 0, wrong = 0;
    private static SphereSheets x;

    public static void main(String[] args) {
        newObject();
        row();
        set();
        copy();
        drop();
        cover();
        coverKinds();
        part();
        name();
        between();
        braid();
        turn();
        over();
        clear();
        told();
        heaps();
        leads();
        shape();
        block();
        same();
        ring();
        lift();
        kindIsAs();
        ask();
        trace();
        joins();
        shapes();
        count();
        status();
        wildNumbers();
        System.out.println(wrong == 0 ? "all promises hold" : wrong + " answers are not as due");
        if (wrong != 0) {
            System.exit(1);
        }
    }

    private static void begin(int number) {
        promise = number;
        call = 0;
        x = new SphereSheets();
    }

    private static void due(long got, long want) {
        call++;
        if (got != want) {
            wrong++;
            System.out.println("promise " + promise + ", check " + call + ": " + got + ", due is " + want);
        }
    }

    /** Lays a cover by way of ROW 7, which is missing afterwards. */
    private static int lay(int place, int n, int k, int... items) {
        x.row(7, 2, items.length);
        for (int i = 0; i < items.length; i++) {
            x.set(7, i, items[i]);
        }
        int told = x.cover(place, 7, 0, n, k);
        x.drop(7);
        return told;
    }

    private static void dueTurn(int place, int turn, int... leads) {
        for (int sheet = 0; sheet < leads.length; sheet++) {
            due(x.leads(place, turn, sheet), leads[sheet]);
        }
        due(x.leads(place, turn, leads.length), BAD);
    }

    private static void newObject() {
        begin(1);
        for (int what = 0; what < 7; what++) {
            due(x.count(what), 0);
        }
        due(x.status(), 0);
        due(x.trace(0), NONE);
        for (int place = 0; place < 10; place++) {
            due(x.is(place, 0), 0);
            due(x.kind(place), NULL);
        }
        for (int row = 0; row < 8; row++) {
            due(x.drop(row), NULL);
        }
        SphereSheets other = new SphereSheets();
        due(other.row(0, 0, 4), 4);
        due(x.count(0), 0);
    }

    private static void row() {
        begin(2);
        due(x.row(0, 0, 0), 0);
        due(x.row(7, 2, 96), 96);
        due(x.row(3, 1, 5), 5);
        due(x.count(0), 3);
        due(x.set(3, 4, 9), 9);
        due(x.row(3, 1, 5), 5);
        due(x.cover(0, 3, 4, 1, 2), 0);
        due(x.row(-1, 0, 1), BAD);
        due(x.row(8, 0, 1), BAD);
        due(x.row(0, -1, 1), BAD);
        due(x.row(0, 3, 1), BAD);
        due(x.row(0, 0, 97), BAD);
        due(x.row(0, 0, MOST), BAD);
        due(x.row(8, 0, -1), BAD);
        due(x.row(0, 3, -1), BAD);
        due(x.row(3, 0, -1), SIZE);
        due(x.row(3, 0, LEAST), SIZE);
        due(x.drop(3), 5);
        due(x.row(4, 0, -1), SIZE);
        due(x.drop(4), NULL);
    }

    private static void set() {
        begin(3);
        x.row(0, 0, 2);
        x.row(1, 1, 2);
        x.row(2, 2, 2);
        due(x.set(0, 0, 127), 127);
        due(x.set(0, 0, 128), -128);
        due(x.set(0, 1, 300), 44);
        due(x.set(0, 1, -129), 127);
        due(x.set(1, 0, 32767), 32767);
        due(x.set(1, 0, 32768), -32768);
        due(x.set(1, 1, 65536 + 5), 5);
        due(x.set(2, 0, LEAST), LEAST);
        due(x.set(2, 1, MOST), MOST);
        due(x.set(2, 1, BAD), BAD);
        due(x.status(), 0);
        due(x.set(-1, 0, 0), BAD);
        due(x.set(8, 0, 0), BAD);
        due(x.set(3, 0, 0), NULL);
        due(x.set(3, -1, 0), NULL);
        due(x.set(0, -1, 0), PLACE);
        due(x.set(0, 2, 0), PLACE);
        due(x.set(0, LEAST, 0), PLACE);
        due(x.set(0, MOST, 0), PLACE);
    }

    /** Items of a ROW can be seen as an order. */
    private static void dueItems(int row, int... items) {
        due(x.cover(9, row, 0, items.length, 2), x.kind(9) < 0 ? 0 : x.kind(9));
        dueTurn(9, 0, items);
    }

    private static void copy() {
        begin(4);
        x.row(0, 0, 5);
        x.row(1, 0, 5);
        x.row(2, 1, 5);
        for (int i = 0; i < 5; i++) {
            x.set(0, i, i);
            x.set(1, i, 4 - i);
        }
        due(x.copy(0, 0, 1, 0, 5), 5);
        dueItems(1, 0, 1, 2, 3, 4);
        x.set(0, 4, 0);
        due(x.copy(0, 0, 0, 1, 4), 4);
        x.set(0, 0, 4);
        dueItems(0, 4, 0, 1, 2, 3);
        due(x.copy(0, 1, 0, 0, 4), 4);
        x.set(0, 4, 4);
        dueItems(0, 0, 1, 2, 3, 4);
        due(x.copy(0, 5, 1, 5, 0), 0);
        due(x.copy(0, 2, 0, 2, 3), 3);
        due(x.copy(-1, 0, 0, 0, 0), BAD);
        due(x.copy(0, 0, 8, 0, 0), BAD);
        due(x.copy(3, 0, 0, 0, 0), NULL);
        due(x.copy(0, 0, 3, 0, 0), NULL);
        due(x.copy(3, -1, 2, 0, 0), NULL);
        due(x.copy(0, 0, 2, 0, 1), STORE);
        due(x.copy(0, -1, 2, 0, 1), STORE);
        due(x.copy(0, -1, 1, 0, 1), PLACE);
        due(x.copy(0, 0, 1, -1, 1), PLACE);
        due(x.copy(0, 0, 1, 0, -1), PLACE);
        due(x.copy(0, 0, 1, 0, 6), PLACE);
        due(x.copy(0, 1, 1, 0, 5), PLACE);
        due(x.copy(0, 0, 1, 1, 5), PLACE);
        due(x.copy(0, 6, 1, 0, 0), PLACE);
        due(x.copy(0, MOST, 1, 0, MOST), PLACE);
        due(x.copy(0, 1, 1, 0, MOST), PLACE);
        due(x.copy(0, LEAST, 1, LEAST, LEAST), PLACE);
        dueItems(1, 0, 1, 2, 3, 4);
    }

    private static void drop() {
        begin(5);
        x.row(0, 0, 5);
        x.row(1, 0, 0);
        due(x.drop(0), 5);
        due(x.drop(0), NULL);
        due(x.drop(1), 0);
        due(x.count(0), 0);
        due(x.drop(-1), BAD);
        due(x.drop(8), BAD);
        due(x.copy(0, 0, 0, 0, 0), NULL);
    }

    private static void cover() {
        begin(6);
        x.row(0, 0, 7);
        int[] items = {9, 1, 2, 0, 0, 2, 1};
        for (int i = 0; i < 7; i++) {
            x.set(0, i, items[i]);
        }
        due(x.cover(0, 0, 1, 3, 3), 2);
        dueTurn(0, 0, 1, 2, 0);
        dueTurn(0, 1, 0, 2, 1);
        dueTurn(0, 2, 2, 1, 0);
        due(x.leads(0, 3, 0), BAD);
        due(x.cover(1, 0, 7, 12, 1), 0);
        dueTurn(1, 0, 0, 1, 2, 3, 4, 5, 6, 7, 8, 9, 10, 11);
        due(x.cover(-1, 0, 0, 1, 1), BAD);
        due(x.cover(10, 0, 0, 1, 1), BAD);
        due(x.cover(0, -1, 0, 1, 1), BAD);
        due(x.cover(0, 8, 0, 1, 1), BAD);
        due(x.cover(0, 0, 0, 0, 1), BAD);
        due(x.cover(0, 0, 0, 13, 1), BAD);
        due(x.cover(0, 0, 0, 1, 0), BAD);
        due(x.cover(0, 0, 0, 1, 9), BAD);
        due(x.cover(0, 1, 0, 0, 1), BAD);
        due(x.cover(0, 1, -1, 1, 1), NULL);
        due(x.cover(0, 0, -1, 1, 1), PLACE);
        due(x.cover(0, 0, 8, 1, 1), PLACE);
        due(x.cover(0, 0, 2, 3, 3), PLACE);
        due(x.cover(0, 0, MOST, 3, 3), PLACE);
        due(x.cover(0, 0, 0, 3, 2), BAD);
        due(x.cover(0, 0, 2, 3, 2), BAD);
        due(x.cover(0, 0, 3, 3, 2), BAD);
        x.set(0, 1, -1);
        due(x.cover(0, 0, 1, 3, 2), BAD);
        dueTurn(0, 0, 1, 2, 0);
        x.row(1, 1, 84);
        for (int i = 0; i < 84; i++) {
            x.set(1, i, (i + 1) % 12);
        }
        due(x.cover(2, 1, 0, 12, 8), 0);
        dueTurn(2, 7, 5, 6, 7, 8, 9, 10, 11, 0, 1, 2, 3, 4);
        due(x.drop(1), 84);
        dueTurn(2, 6, 1, 2, 3, 4, 5, 6, 7, 8, 9, 10, 11, 0);
    }

    private static void coverKinds() {
        begin(6);
        due(lay(0, 1, 1), 0);
        due(lay(0, 2, 1), 0);
        due(lay(0, 1, 2, 0), 0);
        due(lay(0, 2, 2, 0, 1), 0);
        due(lay(0, 2, 2, 1, 0), 1);
        due(lay(0, 3, 2, 1, 2, 0), 0);
        due(lay(0, 4, 2, 1, 0, 3, 2), 0);
        due(lay(0, 3, 4, 1, 0, 2, 0, 2, 1, 2, 1, 0), 1);
        due(lay(0, 3, 4, 1, 0, 2, 0, 2, 1, 0, 1, 2), 0);
        due(lay(0, 1, 3, 0, 0), 2);
        due(lay(0, 3, 3, 1, 0, 2, 0, 2, 1), 2);
        due(lay(0, 2, 3, 0, 1, 0, 1), 2);
        due(lay(0, 2, 3, 1, 0, 0, 1), 3);
        due(lay(0, 2, 3, 0, 1, 1, 0), 4);
        due(lay(0, 4, 3, 1, 0, 2, 3, 0, 1, 3, 2), 3);
        due(lay(0, 4, 3, 1, 0, 2, 3, 0, 1, 2, 3), 2);
        due(lay(0, 6, 3, 0, 5, 4, 3, 2, 1, 5, 0, 1, 2, 3, 4), 4);
    }

    private static void part() {
        begin(7);
        due(lay(0, 6, 3, 4, 1, 3, 5, 0, 2, 0, 1, 5, 2, 4, 3), 2);
        due(x.told(0, 2), 3);
        due(x.part(1, 0, 0), 3);
        dueTurn(1, 0, 1, 0);
        dueTurn(1, 1, 0, 1);
        dueTurn(1, 2, 1, 0);
        due(x.part(2, 0, 1), 2);
        dueTurn(2, 0, 0);
        due(x.part(3, 0, 2), 2);
        dueTurn(3, 0, 1, 2, 0);
        dueTurn(3, 1, 2, 0, 1);
        dueTurn(3, 2, 0, 1, 2);
        due(x.part(0, 0, 3), BAD);
        due(x.part(0, 0, -1), BAD);
        due(x.part(10, 0, 0), BAD);
        due(x.part(0, -1, 0), BAD);
        due(x.part(0, 9, -1), NULL);
        due(x.part(0, 0, 2), 2);
        due(x.told(0, 0), 3);
    }

    private static void name() {
        begin(8);
        due(lay(0, 3, 2, 2, 0, 1), 0);
        due(x.name(1, 0), 0);
        dueTurn(1, 0, 1, 2, 0);
        dueTurn(1, 1, 2, 0, 1);
        // From SHEET 1 TURN 0 leads 0 to itself: that is the least.
        due(lay(2, 3, 3, 2, 1, 0, 1, 0, 2), 2);
        due(x.name(2, 2), 2);
        dueTurn(2, 0, 0, 2, 1);
        dueTurn(2, 1, 1, 0, 2);
        dueTurn(2, 2, 2, 0, 1);
        due(lay(3, 2, 2, 0, 1), 0);
        due(x.name(4, 3), KIND);
        due(x.kind(4), NULL);
        due(x.name(0, 9), NULL);
        due(x.name(10, 3), BAD);
        due(x.name(0, -1), BAD);
    }

    private static void between() {
        begin(9);
        due(lay(0, 6, 3, 1, 2, 0, 4, 5, 3, 3, 5, 4, 0, 2, 1), 3);
        due(x.between(1, 0, 0, 1), 4);
        dueTurn(1, 0, 0, 1);
        dueTurn(1, 1, 1, 0);
        dueTurn(1, 2, 1, 0);
        due(x.between(2, 0, 0, 3), 2);
        dueTurn(2, 0, 1, 2, 0);
        dueTurn(2, 1, 0, 2, 1);
        due(x.between(3, 0, 4, 4), 3);
        due(x.told(3, 0), 6);
        due(x.same(3, 0), 1);
        due(x.between(3, 0, -1, 0), BAD);
        due(x.between(3, 0, 0, 6), BAD);
        due(x.between(3, 9, 0, 0), NULL);
        due(x.between(3, 10, 0, 0), BAD);
        due(x.between(-1, 0, 0, 0), BAD);
        due(lay(4, 2, 2, 0, 1), 0);
        due(x.between(3, 4, 7, 7), KIND);
        due(lay(4, 5, 2, 1, 2, 3, 4, 0), 0);
        due(x.between(4, 4, 1, 3), 0);
        due(x.told(4, 0), 1);
        due(x.told(4, 1), 2);
    }

    private static void braid() {
        begin(10);
        due(lay(0, 3, 3, 1, 2, 0, 1, 0, 2), 2);
        due(x.braid(1, 0, 0, 0), 2);
        dueTurn(1, 0, 1, 0, 2);
        dueTurn(1, 1, 2, 0, 1);
        dueTurn(1, 2, 0, 2, 1);
        due(x.braid(2, 0, 0, 1), 2);
        dueTurn(2, 0, 2, 1, 0);
        dueTurn(2, 1, 1, 2, 0);
        dueTurn(2, 2, 0, 2, 1);
        due(x.braid(3, 1, 0, 1), 2);
        dueTurn(3, 0, 1, 2, 0);
        dueTurn(3, 1, 1, 0, 2);
        due(x.braid(0, 0, 1, 0), 2);
        dueTurn(0, 1, 0, 2, 1);
        due(x.braid(0, 0, 2, 0), BAD);
        due(x.braid(0, 0, -1, 0), BAD);
        due(x.braid(0, 0, MOST, 0), BAD);
        due(x.braid(0, 0, 0, 2), BAD);
        due(x.braid(0, 0, 0, -1), BAD);
        due(x.braid(10, 0, 0, 0), BAD);
        due(x.braid(0, 10, 0, 0), BAD);
        due(x.braid(0, 9, -1, 0), NULL);
        due(lay(4, 2, 1), 0);
        due(x.braid(4, 4, 0, 0), BAD);
    }

    private static void turn() {
        begin(11);
        due(lay(0, 3, 4, 1, 2, 0, 1, 0, 2, 0, 1, 2), 0);
        due(x.turn(1, 0, 0), 0);
        dueTurn(1, 0, 0, 2, 1);
        dueTurn(1, 1, 0, 1, 2);
        dueTurn(1, 2, 1, 0, 2);
        dueTurn(1, 3, 2, 0, 1);
        due(x.turn(1, 0, 1), KIND);
        due(lay(2, 6, 3, 1, 2, 3, 4, 5, 0, 0, 5, 4, 3, 2, 1), 3);
        due(x.turn(2, 2, 1), 4);
        dueTurn(2, 0, 0, 5, 4, 3, 2, 1);
        dueTurn(2, 1, 5, 0, 1, 2, 3, 4);
        dueTurn(2, 2, 5, 4, 3, 2, 1, 0);
        due(x.turn(1, 0, 2), BAD);
        due(x.turn(1, 0, -1), BAD);
        due(x.turn(1, 10, 0), BAD);
        due(x.turn(-1, 0, 0), BAD);
        due(x.turn(1, 9, 1), NULL);
        due(lay(3, 2, 2, 1, 0), 1);
        due(x.turn(3, 3, 1), KIND);
    }

    private static void over() {
        begin(12);
        due(lay(0, 3, 2, 1, 2, 0), 0);
        due(lay(1, 2, 2, 1, 0), 1);
        due(lay(2, 2, 3, 1, 0, 0, 1), 3);
        due(lay(3, 7, 3, 0, 1, 2, 3, 4, 5, 6, 0, 1, 2, 3, 4, 5, 6), 2);
        due(lay(4, 4, 2, 1, 2, 3, 0), 0);
        due(x.over(5, 0, 1), 0);
        dueTurn(5, 0, 3, 2, 5, 4, 1, 0);
        dueTurn(5, 1, 5, 4, 1, 0, 3, 2);
        due(x.over(6, 1, 0), 0);
        dueTurn(6, 0, 4, 5, 3, 1, 2, 0);
        due(x.over(7, 0, 4), 0);
        due(x.told(7, 0), 12);
        due(x.over(7, 4, 4), FULL);
        due(x.over(7, 2, 3), FULL);
        due(x.over(7, 0, 2), BAD);
        due(x.over(7, 4, 3), BAD);
        due(x.over(7, 9, 0), NULL);
        due(x.over(7, 0, 9), NULL);
        due(x.over(10, 0, 0), BAD);
        due(x.over(0, 10, 0), BAD);
        due(x.over(0, 0, -1), BAD);
        due(x.told(7, 0), 12);
        due(x.over(1, 1, 1), 0);
        due(x.told(1, 0), 4);
        due(x.told(1, 2), 2);
    }

    private static void clear() {
        begin(13);
        due(lay(9, 1, 1), 0);
        due(x.clear(9), 1);
        due(x.clear(9), 0);
        due(x.kind(9), NULL);
        due(x.status(), 1);
        due(x.clear(9), 0);
        due(x.status(), 1);
        due(x.clear(-1), BAD);
        due(x.clear(10), BAD);
    }

    private static void told() {
        begin(14);
        due(lay(0, 3, 3, 1, 2, 0, 1, 2, 0), 2);
        int[] want = {3, 3, 1, 1, 3, 3};
        for (int what = 0; what < 6; what++) {
            due(x.told(0, what), want[what]);
        }
        due(lay(1, 4, 4, 1, 0, 2, 3, 0, 1, 3, 2, 1, 0, 2, 3), 1);
        int[] parted = {4, 4, 2, KIND, KIND, 4};
        for (int what = 0; what < 6; what++) {
            due(x.told(1, what), parted[what]);
        }
        due(lay(2, 1, 1), 0);
        int[] lone = {1, 1, 1, 0, 1, 1};
        for (int what = 0; what < 6; what++) {
            due(x.told(2, what), lone[what]);
        }
        due(lay(3, 2, 7, 1, 0, 1, 0, 1, 0, 1, 0, 1, 0, 1, 0), 1);
        due(x.told(3, 3), 2);
        due(x.told(3, 6), BAD);
        due(x.told(3, -1), BAD);
        due(x.told(-1, 0), BAD);
        due(x.told(10, 0), BAD);
        due(x.told(9, 3), NULL);
        due(x.told(9, 6), BAD);
    }

    private static void heaps() {
        begin(14);
        lay(0, 12, 3, 1, 2, 3, 4, 5, 6, 7, 8, 9, 10, 11, 0, 1, 0, 2, 3, 4, 5, 6, 7, 8, 9, 10, 11);
        due(x.told(0, 5), 479001600);
        lay(0, 12, 3, 1, 2, 3, 4, 5, 6, 7, 8, 9, 10, 0, 11, 0, 1, 2, 3, 4, 5, 6, 7, 8, 10, 11, 9);
        due(x.told(0, 5), 239500800);
        // The heap of Mathieu on twelve.
        lay(0, 12, 4, 1, 2, 3, 4, 5, 6, 7, 8, 9, 10, 0, 11, 0, 1, 6, 9, 5, 3, 10, 2, 8, 4, 7, 11,
            11, 10, 5, 7, 8, 2, 9, 3, 4, 6, 1, 0);
        due(x.told(0, 5), 95040);
        // Exchanges within two blocks of six, and the blocks exchanged.
        lay(0, 12, 4, 1, 2, 3, 4, 5, 0, 6, 7, 8, 9, 10, 11, 1, 0, 2, 3, 4, 5, 6, 7, 8, 9, 10, 11,
            6, 7, 8, 9, 10, 11, 0, 1, 2, 3, 4, 5);
        due(x.told(0, 5), 720 * 720 * 2);
        lay(0, 12, 8, 1, 0, 2, 3, 4, 5, 6, 7, 8, 9, 10, 11, 0, 1, 3, 2, 4, 5, 6, 7, 8, 9, 10, 11,
            0, 1, 2, 3, 5, 4, 6, 7, 8, 9, 10, 11, 0, 1, 2, 3, 4, 5, 7, 6, 8, 9, 10, 11,
            0, 1, 2, 3, 4, 5, 6, 7, 9, 8, 10, 11, 0, 1, 2, 3, 4, 5, 6, 7, 8, 9, 11, 10,
            0, 1, 2, 3, 4, 5, 6, 7, 8, 9, 10, 11);
        due(x.told(0, 5), 64);
    }

    private static void leads() {
        begin(15);
        lay(0, 3, 2, 1, 2, 0);
        dueTurn(0, 0, 1, 2, 0);
        dueTurn(0, 1, 2, 0, 1);
        due(x.leads(0, 2, 0), BAD);
        due(x.leads(0, -1, 0), BAD);
        due(x.leads(0, 0, -1), BAD);
        due(x.leads(0, 0, 3), BAD);
        due(x.leads(0, MOST, LEAST), BAD);
        due(x.leads(10, 0, 0), BAD);
        due(x.leads(-1, 0, 0), BAD);
        due(x.leads(1, -1, -1), NULL);
    }

    private static void shape() {
        begin(16);
        lay(0, 6, 2, 0, 2, 1, 4, 5, 3);
        int[] want = {3, 2, 1, NONE};
        for (int i = 0; i < 4; i++) {
            due(x.shape(0, 0, i), want[i]);
            due(x.shape(0, 1, i), want[i]);
        }
        due(x.shape(0, 0, -1), NONE);
        due(x.shape(0, 0, MOST), NONE);
        due(x.shape(0, 0, LEAST), NONE);
        due(x.status(), 0);
        due(x.shape(0, 2, 0), BAD);
        due(x.shape(0, -1, 0), BAD);
        due(x.shape(10, 0, 0), BAD);
        due(x.shape(1, 5, 0), NULL);
        lay(1, 12, 1);
        due(x.shape(1, 0, 11), 1);
        due(x.shape(1, 0, 12), NONE);
        lay(1, 12, 2, 1, 2, 3, 4, 5, 6, 7, 8, 9, 10, 11, 0);
        due(x.shape(1, 0, 0), 12);
        due(x.shape(1, 0, 1), NONE);
    }

    private static void block() {
        begin(17);
        lay(0, 12, 2, 1, 2, 3, 4, 5, 6, 7, 8, 9, 10, 11, 0);
        due(x.block(0, 0, 8, -1), 4);
        due(x.block(0, 8, 0, -1), 4);
        due(x.block(0, 0, 6, -1), 6);
        due(x.block(0, 0, 1, -1), 1);
        due(x.block(0, 5, 5, -1), 12);
        for (int sheet = 0; sheet < 12; sheet++) {
            due(x.block(0, 3, 11, sheet), sheet % 4);
            due(x.block(0, 7, 7, sheet), sheet);
            due(x.block(0, 0, 5, sheet), 0);
        }
        lay(1, 4, 2, 2, 3, 1, 0);
        due(x.block(1, 0, 1, 0), 0);
        due(x.block(1, 0, 1, 1), 0);
        due(x.block(1, 0, 1, 2), 1);
        due(x.block(1, 2, 3, 3), 1);
        due(x.block(0, -1, 0, 0), BAD);
        due(x.block(0, 0, 12, 0), BAD);
        due(x.block(0, 0, 0, 12), BAD);
        due(x.block(0, 0, 0, -2), BAD);
        due(x.block(0, 0, 0, LEAST), BAD);
        due(x.block(10, 0, 0, 0), BAD);
        due(x.block(9, 99, 0, 0), NULL);
        lay(2, 2, 1);
        due(x.block(2, 99, 0, 0), KIND);
    }

    private static void same() {
        begin(18);
        lay(0, 3, 3, 1, 2, 0, 1, 0, 2);
        lay(1, 3, 3, 2, 0, 1, 1, 0, 2);
        lay(2, 3, 3, 1, 0, 2, 1, 2, 0);
        lay(3, 3, 2, 1, 2, 0);
        lay(4, 3, 3, 0, 1, 2, 0, 1, 2);
        lay(5, 4, 3, 1, 2, 3, 0, 0, 1, 2, 3);
        due(x.same(0, 1), 1);
        due(x.same(1, 0), 1);
        due(x.same(0, 0), 1);
        due(x.same(0, 2), 0);
        due(x.same(0, 3), 0);
        due(x.same(0, 5), 0);
        due(x.same(4, 0), KIND);
        due(x.same(0, 4), KIND);
        due(x.same(9, 4), NULL);
        due(x.same(0, 9), NULL);
        due(x.same(4, 9), KIND);
        due(x.same(-1, 4), BAD);
        due(x.same(9, 10), BAD);
    }

    private static void ring() {
        begin(19);
        lay(0, 4, 4, 1, 0, 2, 3, 0, 2, 1, 3, 0, 1, 3, 2);
        due(x.ring(0), 16);
        lay(0, 1, 1);
        due(x.ring(0), 1);
        lay(0, 2, 8, 1, 0, 1, 0, 1, 0, 1, 0, 1, 0, 1, 0, 1, 0);
        due(x.ring(0), 1);
        // Two exchanges and two TURNS that leave all: as many names as choices of their places.
        lay(0, 2, 4, 1, 0, 1, 0, 0, 1);
        due(x.ring(0), 6);
        // Shifts by 1, 2, 4 of seven in any order; naming x as 2 x leads them round, so that three orders are one name.
        lay(0, 7, 3, 1, 2, 3, 4, 5, 6, 0, 2, 3, 4, 5, 6, 0, 1);
        due(x.ring(0), 2);
        lay(1, 3, 2, 0, 1, 2);
        due(x.ring(1), KIND);
        due(x.status(), 3);
        // Six unlike shifts and the one that closes, in any order: hundreds of names, however they are renamed.
        lay(1, 12, 7, 1, 2, 3, 4, 5, 6, 7, 8, 9, 10, 11, 0, 2, 3, 4, 5, 6, 7, 8, 9, 10, 11, 0, 1,
            3, 4, 5, 6, 7, 8, 9, 10, 11, 0, 1, 2, 4, 5, 6, 7, 8, 9, 10, 11, 0, 1, 2, 3,
            5, 6, 7, 8, 9, 10, 11, 0, 1, 2, 3, 4, 0, 1, 2, 3, 4, 5, 6, 7, 8, 9, 10, 11);
        due(x.ring(9), NULL);
        due(x.ring(1), FULL);
        due(x.status(), 1);
        // At the bound, and a little beyond it.
        lay(2, 5, 5, 2, 4, 0, 3, 1, 2, 1, 4, 0, 3, 2, 3, 1, 4, 0, 0, 1, 2, 3, 4);
        due(x.ring(2), 300);
        lay(2, 5, 5, 3, 1, 4, 0, 2, 0, 3, 1, 4, 2, 3, 1, 4, 0, 2, 0, 3, 1, 4, 2);
        due(x.ring(2), FULL);
        due(x.ring(-1), BAD);
        due(x.ring(10), BAD);
        due(x.ring(0), 2);
        due(x.status(), 0);
    }

    private static void lift() {
        begin(20);
        lay(0, 3, 3, 1, 2, 0, 1, 0, 2);
        x.row(0, 2, 96);
        int[] way = {1, 2, -1, -3, 3, 3};
        for (int i = 0; i < 6; i++) {
            x.set(0, i, way[i]);
        }
        int[][] ends = {{0, 1, 0, 2, 1, 2, 1}, {1, 2, 2, 1, 2, 1, 2}, {2, 0, 1, 0, 0, 0, 0}};
        for (int sheet = 0; sheet < 3; sheet++) {
            for (int m = 0; m <= 6; m++) {
                due(x.lift(0, 0, 0, m, sheet), ends[sheet][m]);
            }
        }
        due(x.lift(0, 0, 0, 7, 0), BAD);
        due(x.lift(0, 0, 96, 0, 2), 2);
        due(x.lift(0, 0, 97, 0, 2), PLACE);
        due(x.lift(0, 0, -1, 0, 2), PLACE);
        due(x.lift(0, 0, 1, 96, 0), PLACE);
        due(x.lift(0, 0, MOST, 96, 0), PLACE);
        due(x.lift(0, 0, 0, 97, 0), BAD);
        due(x.lift(0, 0, 0, -1, 0), BAD);
        due(x.lift(-1, 0, 0, 0, 0), BAD);
        due(x.lift(10, 0, 0, 0, 0), BAD);
        due(x.lift(0, -1, 0, 0, 0), BAD);
        due(x.lift(0, 8, 0, 0, 0), BAD);
        due(x.lift(9, 0, -1, 0, 0), NULL);
        due(x.lift(0, 1, -1, 0, 0), NULL);
        due(x.lift(0, 0, 0, 1, 3), BAD);
        due(x.lift(0, 0, 0, 0, -1), BAD);
        int[] no = {0, 4, -4, LEAST, MOST, BAD};
        for (int i = 0; i < no.length; i++) {
            x.set(0, 1, no[i]);
            due(x.lift(0, 0, 0, 2, 0), BAD);
            due(x.lift(0, 0, 0, 1, 0), 1);
        }
        for (int i = 0; i < 96; i++) {
            x.set(0, i, -1);
        }
        due(x.lift(0, 0, 0, 96, 1), 1);
        due(x.lift(0, 0, 1, 95, 1), 2);
    }

    private static void kindIsAs() {
        begin(21);
        lay(0, 2, 1);
        lay(1, 2, 2, 1, 0);
        lay(2, 3, 3, 1, 0, 2, 0, 2, 1);
        lay(3, 4, 3, 1, 0, 3, 2, 2, 3, 0, 1);
        lay(4, 2, 3, 0, 1, 1, 0);
        int[][] ofKind = {{1, 0, 0, 0, 0}, {1, 1, 0, 0, 0}, {1, 0, 1, 0, 0}, {1, 0, 1, 1, 0}, {1, 0, 1, 1, 1}};
        int[] sheets = {2, 2, 3, 4, 2};
        for (int place = 0; place < 5; place++) {
            due(x.kind(place), place);
            for (int kind = 0; kind < 5; kind++) {
                due(x.is(place, kind), ofKind[place][kind]);
                due(x.as(place, kind), ofKind[place][kind] == 1 ? sheets[place] : KIND);
                due(x.status(), ofKind[place][kind] == 1 ? 0 : 3);
            }
        }
        due(x.kind(-1), BAD);
        due(x.kind(10), BAD);
        due(x.kind(9), NULL);
        due(x.is(9, 0), 0);
        due(x.is(0, 0), 1);
        due(x.status(), 1);
        due(x.is(9, 5), BAD);
        due(x.is(9, -1), BAD);
        due(x.is(10, 0), BAD);
        due(x.as(9, 4), NULL);
        due(x.as(0, 5), BAD);
        due(x.as(0, -1), BAD);
        due(x.as(-1, 0), BAD);
    }

    private static void dueTrace(int... numbers) {
        for (int i = 0; i < numbers.length; i++) {
            due(x.trace(i), numbers[i]);
        }
        for (int i = numbers.length; i < 17; i++) {
            due(x.trace(i), NONE);
        }
    }

    private static void ask() {
        begin(24);
        lay(0, 5, 1);
        lay(1, 3, 5, 1, 0, 2, 0, 2, 1, 1, 0, 2, 0, 2, 1);
        lay(2, 3, 3, 1, 0, 2, 1, 0, 2);
        lay(3, 4, 3, 1, 0, 3, 2, 2, 3, 0, 1);
        lay(4, 6, 3, 0, 5, 4, 3, 2, 1, 5, 0, 1, 2, 3, 4);
        due(x.ask(0, 0), 5);
        dueTrace(10);
        due(x.ask(0, 1), 5);
        dueTrace(20);
        due(x.ask(1, 0), 8);
        dueTrace(11, 10);
        due(x.ask(1, 1), 1);
        dueTrace(20);
        due(x.ask(2, 0), 5);
        dueTrace(12, 10);
        due(x.ask(2, 1), 102);
        dueTrace(21, 20);
        due(x.ask(3, 0), 12);
        dueTrace(13, 12, 10);
        due(x.ask(3, 1), 101);
        dueTrace(21, 20);
        due(x.ask(4, 1), 104);
        dueTrace(22, 21, 20);
        due(x.ask(4, 0), 124);
        dueTrace(14, 13, 12, 10, 22, 21, 20);
        due(x.ask(4, 2), BAD);
        due(x.ask(4, -1), BAD);
        due(x.ask(10, 0), BAD);
        due(x.ask(-1, 0), BAD);
        dueTrace(14, 13, 12, 10, 22, 21, 20);
        due(x.ask(9, 0), NULL);
        dueTrace();
    }

    private static void trace() {
        begin(25);
        due(x.trace(0), NONE);
        lay(0, 1, 1);
        x.ask(0, 0);
        due(x.trace(0), 10);
        due(x.trace(1), NONE);
        due(x.trace(-1), NONE);
        due(x.trace(LEAST), NONE);
        due(x.trace(MOST), NONE);
        x.clear(0);
        due(x.trace(0), 10);
    }

    private static void joins() {
        begin(26);
        due(x.joins(2, 0, 1), 1);
        due(x.joins(2, 0, 0), 0);
        due(x.joins(2, 9, 0), 1);
        due(x.joins(2, 8, 1), 1);
        due(x.joins(3, 2, 2), 3);
        due(x.joins(3, 3, 1), 9);
        due(x.joins(4, 4, 4), 120);
        long[] oneRound = {1, 3, 16, 125, 1296, 16807, 262144, 4782969, 100000000};
        for (int n = 2; n <= 10; n++) {
            due(x.joins(n, n - 1, 0), oneRound[n - 2]);
            due(x.joins(n, n - 2, 0), 0);
        }
        for (int n = 2; n <= 10; n++) {
            for (int m = 0; m <= 9; m += 3) {
                dueAllRows(n, m);
            }
        }
        due(x.joins(1, 0, 0), BAD);
        due(x.joins(11, 0, 0), BAD);
        due(x.joins(2, -1, 0), BAD);
        due(x.joins(2, 10, 0), BAD);
        due(x.joins(2, 0, -1), BAD);
        due(x.joins(2, 0, 2), BAD);
        due(x.joins(10, 9, 42), BAD);
        due(x.joins(10, 9, NONE), BAD);
        due(x.joins(5, 0, 7), BAD);
        due(x.joins(5, 0, 6), 1);
    }

    /** Over all orders together there are as many rows as there are choices of m exchanges. */
    private static void dueAllRows(int n, int m) {
        SphereSheets y = new SphereSheets();
        long all = 0;
        for (int s = 0; s < y.shapes(n, NONE, 0); s++) {
            all += y.joins(n, m, s) * ordersOf(y, n, s);
        }
        long want = 1;
        for (int i = 0; i < m; i++) {
            want *= n * (n - 1) / 2;
        }
        due(all, want);
    }

    private static long ordersOf(SphereSheets y, int n, int s) {
        long orders = 1;
        for (int i = 2; i <= n; i++) {
            orders *= i;
        }
        int alike = 0;
        for (int i = 0; y.shapes(n, s, i) != NONE; i++) {
            alike = i > 0 && y.shapes(n, s, i) == y.shapes(n, s, i - 1) ? alike + 1 : 1;
            orders /= (long) y.shapes(n, s, i) * alike;
        }
        return orders;
    }

    private static void shapes() {
        begin(27);
        int[] many = {1, 2, 3, 5, 7, 11, 15, 22, 30, 42};
        for (int n = 1; n <= 10; n++) {
            due(x.shapes(n, NONE, 0), many[n - 1]);
            due(x.shapes(n, NONE, LEAST), many[n - 1]);
            due(x.shapes(n, 0, 0), n);
            due(x.shapes(n, 0, 1), NONE);
            due(x.shapes(n, many[n - 1] - 1, n - 1), 1);
            due(x.shapes(n, many[n - 1] - 1, n), NONE);
            due(x.shapes(n, many[n - 1], 0), BAD);
            due(x.shapes(n, -1, 0), BAD);
        }
        int[][] five = {{5}, {4, 1}, {3, 2}, {3, 1, 1}, {2, 2, 1}, {2, 1, 1, 1}, {1, 1, 1, 1, 1}};
        for (int s = 0; s < 7; s++) {
            for (int i = 0; i < 6; i++) {
                due(x.shapes(5, s, i), i < five[s].length ? five[s][i] : NONE);
            }
        }
        due(x.shapes(5, 0, -1), NONE);
        due(x.shapes(0, NONE, 0), BAD);
        due(x.shapes(11, NONE, 0), BAD);
        due(x.shapes(LEAST, NONE, 0), BAD);
    }

    private static void dueCounts(int... counts) {
        for (int what = 0; what < 7; what++) {
            due(x.count(what), counts[what]);
        }
    }

    private static void count() {
        begin(28);
        x.row(0, 0, 0);
        x.row(5, 0, 0);
        dueCounts(2, 0, 0, 0, 0, 0, 0);
        lay(0, 2, 1);
        dueCounts(2, 1, 0, 0, 0, 0, 0);
        lay(1, 2, 2, 1, 0);
        dueCounts(2, 2, 1, 0, 0, 0, 1);
        lay(2, 3, 3, 1, 0, 2, 0, 2, 1);
        dueCounts(2, 3, 1, 1, 0, 0, 2);
        lay(9, 4, 3, 1, 0, 3, 2, 2, 3, 0, 1);
        dueCounts(2, 4, 1, 2, 1, 0, 3);
        lay(4, 2, 3, 0, 1, 1, 0);
        dueCounts(2, 5, 1, 3, 2, 1, 4);
        x.clear(4);
        x.drop(5);
        dueCounts(1, 4, 1, 2, 1, 0, 3);
        due(x.count(-1), BAD);
        due(x.count(7), BAD);
    }

    private static void status() {
        begin(29);
        due(x.status(), 0);
        x.row(0, 0, -1);
        due(x.status(), 4);
        x.row(0, 3, 0);
        x.joins(2, 0, 0);
        x.shapes(2, 0, 0);
        x.count(0);
        x.trace(0);
        x.is(0, 0);
        x.clear(0);
        due(x.status(), 4);
        x.row(0, 0, 4);
        due(x.status(), 0);
        x.row(1, 1, 4);
        x.copy(0, 0, 1, 0, 0);
        due(x.status(), 5);
        x.cover(0, 0, 0, 2, 2);
        due(x.status(), 5);
        x.set(0, 4, 0);
        due(x.status(), 2);
        x.set(0, 0, 1);
        due(x.status(), 0);
        x.ask(0, 0);
        due(x.status(), 1);
        x.ask(0, 2);
        due(x.status(), 1);
        x.cover(0, 0, 0, 2, 2);
        due(x.status(), 0);
        x.as(0, 4);
        due(x.status(), 3);
        int[] fine = new int[] {x.kind(0), x.status(), x.as(0, 4), x.told(0, 0), x.status(), x.as(0, 4),
            x.leads(0, 0, 0), x.status(), x.as(0, 4), x.shape(0, 0, 9), x.status(), x.as(0, 4),
            x.lift(0, 0, 0, 0, 0), x.status(), x.as(0, 4), x.ring(0), x.status(), x.as(0, 4),
            x.same(0, 0), x.status(), x.as(0, 4), x.block(0, 0, 0, 0), x.status(), x.as(0, 4),
            x.ask(0, 1), x.status(), x.as(0, 4), x.drop(1), x.status()};
        for (int i = 1; i < fine.length; i += 3) {
            due(fine[i], 0);
        }
        x.as(0, 4);
        x.leads(0, 9, 0);
        x.part(1, 0, 9);
        x.braid(1, 0, 9, 0);
        due(x.status(), 3);
        lay(1, 12, 2, 1, 2, 3, 4, 5, 6, 7, 8, 9, 10, 11, 0);
        x.as(0, 4);
        due(x.over(2, 1, 1), FULL);
        due(x.status(), 3);
        due(x.name(2, 1), 0);
        due(x.status(), 0);
    }

    /** No call may fail, whatever it is given. */
    private static void wildNumbers() {
        begin(0);
        int[] wild = {LEAST, LEAST + 1, BAD, -97, -1, 0, 1, 2, 3, 95, 96, 97, MOST - 1, MOST};
        for (int a : wild) {
            for (int b : wild) {
                for (int c : wild) {
                    callAll(new SphereSheets(), a, b, c);
                }
            }
        }
    }

    private static void callAll(SphereSheets y, int a, int b, int c) {
        y.row(0, 0, 96);
        y.cover(0, 0, 0, 3, 1);
        y.row(a, b, c);
        y.set(a, b, c);
        y.copy(a, b, c, a, b);
        y.cover(a, b, c, a, b);
        y.cover(0, 0, a, b, c);
        y.part(a, b, c);
        y.name(a, b);
        y.between(a, b, c, a);
        y.braid(a, b, c, a);
        y.turn(a, b, c);
        y.over(a, b, c);
        y.told(a, b);
        y.leads(a, b, c);
        y.shape(a, b, c);
        y.block(a, b, c, a);
        y.same(a, b);
        y.ring(a);
        y.lift(a, b, c, a, b);
        y.lift(0, 0, a, b, c);
        y.kind(a);
        y.is(a, b);
        y.as(a, b);
        y.ask(a, b);
        y.trace(a);
        y.joins(a, b, c);
        y.shapes(a, b, c);
        y.count(a);
        y.clear(a);
        y.drop(a);
        due(y.status() >= 0 && y.status() <= 5 ? 1 : 0, 1);
    }
}
