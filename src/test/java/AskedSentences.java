/** Promises 14 to 25. */
final class AskedSentences extends Sentences {
    private AskedSentences() {
    }

    static void run() {
        told();
        leads();
        shape();
        block();
        same();
        ring();
        lift();
        liftRefused();
        kindAndIs();
        as();
        ask();
        trace();
    }

    private static void told() {
        says(14, "Of a COVER: 0 n, 1 k, 2 PARTS,");
        lay(0, 1, 1);
        lay(1, 12, 8, shifts(12, 0, 0, 0, 0, 0, 0, 6));
        due(x.told(0, 0), 1);
        due(x.told(0, 1), 1);
        due(x.told(0, 2), 1);
        due(x.told(1, 0), 12);
        due(x.told(1, 1), 8);
        due(x.told(1, 2), 6);
        lay(1, 12, 8, shifts(12, 0, 0, 0, 0, 0, 0, 0));
        due(x.told(1, 2), 12);
        answered(y -> y.told(5, 0), 4);
        answered(y -> y.told(5, 1), 2);
        answered(y -> y.told(5, 2), 2);

        says(14, "3 HOLES (KIND: not WHOLE), 4 LIKES (KIND),");
        answered(y -> y.told(7, 3), 3);
        answered(y -> y.told(7, 4), 7);
        answered(y -> y.told(2, 3), 0);
        answered(y -> y.told(2, 4), 1);
        refused(y -> y.told(5, 3), KIND);
        refused(y -> y.told(5, 4), KIND);

        says(14, "5 THE HEAP.");
        answered(y -> y.told(5, 5), 2);
        answered(y -> y.told(0, 5), 12);
        answered(y -> y.told(2, 5), 6);
        lay(0, 1, 1);
        due(x.told(0, 5), 1);
        lay(0, 12, 1);
        due(x.told(0, 5), 1);
        lay(0, 12, 3, joined(shifts(12, 1), exchanging(12, 0, 1)));
        due(x.told(0, 5), 479001600);

        says(14, "BAD;");
        refusedFor((y, place) -> y.told(place, 0), BAD, LEAST, -1, 10, MOST);
        refusedFor((y, what) -> y.told(0, what), BAD, LEAST, -1, 6, MOST);
        refusedFor((y, what) -> y.told(9, what), BAD, -1, 6);
        refusedFor((y, what) -> y.told(5, what), BAD, -1, 6);

        says(14, "NULL.");
        refusedFor((y, what) -> y.told(9, what), NULL, 0, 1, 2, 3, 4, 5);
        refused(y -> y.told(8, 0), NULL);
    }

    private static void leads() {
        says(15, "Where a TURN leads a SHEET.");
        answered(y -> y.leads(0, 0, 0), 1);
        answered(y -> y.leads(0, 0, 11), 0);
        answered(y -> y.leads(0, 7, 11), 7);
        answered(y -> y.leads(5, 1, 3), 2);

        says(15, "BAD: place;");
        refusedFor((y, place) -> y.leads(place, 0, 0), BAD, LEAST, -1, 10, MOST);

        says(15, "NULL;");
        refusedFor((y, place) -> y.leads(place, 0, 0), NULL, 8, 9);
        refused(y -> y.leads(9, -1, 99), NULL);

        says(15, "then BAD: TURN, SHEET.");
        refusedFor((y, turn) -> y.leads(0, turn, 0), BAD, LEAST, -1, 8, MOST);
        refusedFor((y, sheet) -> y.leads(0, 0, sheet), BAD, LEAST, -1, 12, MOST);
        refusedFor((y, turn) -> y.leads(2, turn, 0), BAD, -1, 3);
        refusedFor((y, sheet) -> y.leads(2, 2, sheet), BAD, -1, 3);
    }

    private static void shape() {
        says(16, "The i-th length of a TURN's SHAPE;");
        lay(0, 6, 2, 0, 2, 1, 4, 5, 3);
        for (int turn = 0; turn < 2; turn++) {
            due(x.shape(0, turn, 0), 3);
            due(x.shape(0, turn, 1), 2);
            due(x.shape(0, turn, 2), 1);
        }
        lay(0, 12, 2, shifts(12, 1));
        due(x.shape(0, 1, 0), 12);
        lay(0, 12, 2, shifts(12, 0));
        due(x.shape(0, 1, 0), 1);
        due(x.shape(0, 1, 11), 1);

        says(16, "NONE: there are not so many.");
        answered(y -> y.shape(0, 0, 1), NONE);
        answered(y -> y.shape(0, 0, MOST), NONE);
        answered(y -> y.shape(0, 0, -1), NONE);
        answered(y -> y.shape(0, 0, LEAST), NONE);
        lay(0, 12, 1);
        due(x.shape(0, 0, 11), 1);
        due(x.shape(0, 0, 12), NONE);

        says(16, "BAD: place;");
        refusedFor((y, place) -> y.shape(place, 0, 0), BAD, LEAST, -1, 10, MOST);

        says(16, "NULL;");
        refusedFor((y, place) -> y.shape(place, 0, 0), NULL, 8, 9);
        refused(y -> y.shape(9, -1, -1), NULL);

        says(16, "then BAD: TURN.");
        refusedFor((y, turn) -> y.shape(0, turn, 0), BAD, LEAST, -1, 8, MOST);
        refusedFor((y, turn) -> y.shape(2, turn, 99), BAD, -1, 3);
    }

    private static void block() {
        says(17, "The number of a SHEET's BLOCK, by a, b;");
        lay(0, 12, 2, shifts(12, 1));
        for (int sheet = 0; sheet < 12; sheet++) {
            due(x.block(0, 3, 11, sheet), sheet % 4);
            due(x.block(0, 11, 5, sheet), sheet % 6);
            due(x.block(0, 11, 11, sheet), sheet);
            due(x.block(0, 0, 11, sheet), 0);
        }
        due(x.status(), 0);

        says(17, "of SHEET -1: how many BLOCKS.");
        lay(0, 12, 2, shifts(12, 1));
        due(x.block(0, 0, 0, -1), 12);
        due(x.block(0, 0, 6, -1), 6);
        due(x.block(0, 4, 0, -1), 4);
        due(x.block(0, 11, 2, -1), 3);
        due(x.block(0, 1, 11, -1), 2);
        due(x.block(0, 11, 0, -1), 1);
        lay(0, 1, 1);
        due(x.block(0, 0, 0, -1), 1);
        due(x.block(0, 0, 0, 0), 0);
        answered(y -> y.block(0, 0, 0, -1), 12);

        says(17, "BAD: place;");
        refusedFor((y, place) -> y.block(place, 0, 0, 0), BAD, LEAST, -1, 10, MOST);

        says(17, "NULL;");
        refusedFor((y, place) -> y.block(place, 0, 0, 0), NULL, 8, 9);
        refused(y -> y.block(9, -1, 99, -2), NULL);

        says(17, "KIND: not WHOLE;");
        refused(y -> y.block(5, 0, 0, 0), KIND);
        refused(y -> y.block(5, 0, 0, -1), KIND);
        refused(y -> y.block(5, -1, 99, -2), KIND);

        says(17, "then BAD: a, b, SHEET.");
        refusedFor((y, a) -> y.block(2, a, 0, 0), BAD, LEAST, -1, 3, MOST);
        refusedFor((y, b) -> y.block(2, 0, b, 0), BAD, LEAST, -1, 3, MOST);
        refusedFor((y, sheet) -> y.block(2, 0, 0, sheet), BAD, LEAST, -2, 3, MOST);
        refusedFor((y, a) -> y.block(2, a, a, -1), BAD, -1, 3);
        refusedFor((y, a) -> y.block(0, a, a, -1), BAD, -1, 12);
        answered(y -> y.block(2, 2, 2, 2), 2);
    }

    private static void same() {
        says(18, "Whether two WHOLE COVERS are LIKE: 1, 0.");
        lay(0, 3, 3, 1, 2, 0, 1, 0, 2);
        lay(1, 3, 3, 2, 0, 1, 0, 2, 1);
        lay(2, 3, 3, 1, 0, 2, 1, 2, 0);
        lay(3, 3, 4, 1, 2, 0, 1, 0, 2, 0, 2, 1);
        lay(4, 6, 3, joined(shifts(6, 1), shifts(6, 1)));
        due(x.same(0, 1), 1);
        due(x.same(1, 0), 1);
        due(x.same(0, 0), 1);
        due(x.same(0, 2), 0);
        due(x.same(0, 3), 0);
        due(x.same(3, 0), 0);
        due(x.same(0, 4), 0);
        due(x.same(4, 0), 0);
        due(x.status(), 0);
        answered(y -> y.same(0, 2), 0);

        says(18, "BAD: places;");
        refusedFor((y, a) -> y.same(a, 0), BAD, LEAST, -1, 10, MOST);
        refusedFor((y, b) -> y.same(0, b), BAD, LEAST, -1, 10, MOST);
        refused(y -> y.same(9, 10), BAD);
        refused(y -> y.same(5, -1), BAD);
        refused(y -> y.same(10, 9), BAD);

        says(18, "NULL, KIND: not WHOLE (a, then b).");
        refused(y -> y.same(9, 0), NULL);
        refused(y -> y.same(0, 9), NULL);
        refused(y -> y.same(5, 0), KIND);
        refused(y -> y.same(0, 5), KIND);
        refused(y -> y.same(5, 5), KIND);
        refused(y -> y.same(9, 5), NULL);
        refused(y -> y.same(5, 9), KIND);
    }

    private static void ring() {
        says(19, "The RING of a COVER.");
        answered(y -> y.ring(2), 3);
        answered(y -> y.ring(7), 2);
        lay(0, 1, 1);
        due(x.ring(0), 1);
        lay(0, 1, 8, 0, 0, 0, 0, 0, 0, 0);
        due(x.ring(0), 1);
        lay(0, 2, 2, 1, 0);
        due(x.ring(0), 1);
        lay(0, 4, 4, 1, 0, 2, 3, 0, 2, 1, 3, 0, 1, 3, 2);
        due(x.ring(0), 16);

        says(19, "BAD;");
        refusedFor((y, place) -> y.ring(place), BAD, LEAST, -1, 10, MOST);

        says(19, "NULL;");
        refusedFor((y, place) -> y.ring(place), NULL, 8, 9);

        says(19, "KIND: not WHOLE;");
        refused(y -> y.ring(5), KIND);

        says(19, "then FULL.");
        refused(y -> y.ring(6), FULL);
        refused(y -> y.ring(0), FULL);
        // One that is not WHOLE is found so, however many names its parts have.
        lay(0, 6, 4, 4, 2, 3, 1, 0, 5, 2, 4, 1, 3, 0, 5, 3, 1, 2, 0, 4, 5);
        due(x.ring(0), KIND);
        due(x.status(), 3);
    }

    private static void lift() {
        says(20, "A WAY of m ITEMS (0 to 96) of a ROW from i on, LIFTED from a SHEET.");
        x.row(0, 0, 96);
        for (int i = 0; i < 96; i++) {
            x.set(0, i, i < 48 ? 1 : -2);
        }
        lay(0, 12, 3, shifts(12, 1, 5));
        due(x.lift(0, 0, 0, 0, 7), 7);
        due(x.lift(0, 0, 96, 0, 11), 11);
        due(x.lift(0, 0, 0, 1, 11), 0);
        due(x.lift(0, 0, 0, 5, 0), 5);
        due(x.lift(0, 0, 43, 6, 0), 0);
        due(x.lift(0, 0, 95, 1, 0), 7);
        due(x.lift(0, 0, 95, 1, 4), 11);
        due(x.lift(0, 0, 0, 96, 3), 3);
        due(x.lift(0, 0, 1, 95, 3), 2);
        due(x.lift(0, 0, 0, 95, 3), 8);
        due(x.status(), 0);
        answered(y -> y.lift(5, 0, 0, 1, 3), 2);
        answered(y -> y.lift(0, 3, 0, 0, 11), 11);
    }

    private static void liftRefused() {
        says(20, "BAD: place, ROW, m;");
        refusedFor((y, place) -> y.lift(place, 0, 0, 1, 0), BAD, LEAST, -1, 10, MOST);
        refusedFor((y, row) -> y.lift(0, row, 0, 1, 0), BAD, LEAST, -1, 8, MOST);
        refusedFor((y, m) -> y.lift(0, 0, 0, m, 0), BAD, LEAST, -1, 97, MOST);
        refusedFor((y, m) -> y.lift(9, 0, 0, m, 0), BAD, -1, 97);
        refusedFor((y, m) -> y.lift(0, 4, -1, m, 0), BAD, -1, 97);
        refused(y -> y.lift(10, 4, 0, 1, 0), BAD);

        says(20, "NULL (the place, then the ROW);");
        refusedFor((y, place) -> y.lift(place, 0, 0, 1, 0), NULL, 8, 9);
        refusedFor((y, row) -> y.lift(0, row, 0, 1, 0), NULL, 4, 7);
        refused(y -> y.lift(9, 4, 0, 0, 0), NULL);
        refused(y -> y.lift(9, 0, -1, 96, 99), NULL);
        refused(y -> y.lift(0, 4, -1, 96, 99), NULL);

        says(20, "PLACE;");
        refusedFor((y, i) -> y.lift(0, 0, i, 1, 0), PLACE, LEAST, -1, 6, MOST);
        refusedFor((y, i) -> y.lift(0, 0, i, 0, 0), PLACE, LEAST, -1, 7, MOST);
        refusedFor((y, m) -> y.lift(0, 0, 0, m, 0), PLACE, 7, 96);
        refused(y -> y.lift(0, 0, 1, 6, 99), PLACE);
        refused(y -> y.lift(0, 0, MOST, 96, -1), PLACE);
        refused(y -> y.lift(0, 3, 0, 1, 0), PLACE);

        says(20, "then BAD: SHEET, an ITEM.");
        refusedFor((y, sheet) -> y.lift(0, 1, 0, 1, sheet), BAD, LEAST, -1, 12, MOST);
        refusedFor((y, sheet) -> y.lift(2, 1, 0, 0, sheet), BAD, LEAST, -1, 3, MOST);
        refusedFor((y, i) -> y.lift(0, 0, i, 1, 0), BAD, 1);
        refused(y -> y.lift(2, 1, 0, 4, 0), BAD);
        refused(y -> y.lift(0, 0, 0, 6, 0), BAD);
        answered(y -> y.lift(2, 1, 0, 3, 0), 0);
        lay(0, 12, 8, shifts(12, 1, 2, 3, 4, 5, 6, 7));
        int[] no = {0, 9, -9, 256, LEAST, MOST, LEAST + 1, BAD};
        for (int item : no) {
            fill(x, 0, 2, 8, -8, item);
            due(x.lift(0, 0, 0, 2, 3), 3);
            due(x.lift(0, 0, 0, 3, 3), BAD);
            due(x.lift(0, 0, 2, 1, 3), BAD);
        }
    }

    private static void kindAndIs() {
        says(21, "The KIND of a COVER, as it is told.");
        for (int place = 0; place < 8; place++) {
            int[] kinds = {0, 1, 2, 3, 4, 0, 0, 2};
            int number = place;
            answered(y -> y.kind(number), kinds[place]);
        }

        says(21, "BAD;");
        refusedFor((y, place) -> y.kind(place), BAD, LEAST, -1, 10, MOST);

        says(21, "NULL.");
        refusedFor((y, place) -> y.kind(place), NULL, 8, 9);

        says(22, "Whether a COVER, as it is told, is of a KIND (0 .. 4): 1, 0; of nothing 0.");
        int[][] ofKind = {{1, 0, 0, 0, 0}, {1, 1, 0, 0, 0}, {1, 0, 1, 0, 0}, {1, 0, 1, 1, 0}, {1, 0, 1, 1, 1},
            {1, 0, 0, 0, 0}, {1, 0, 0, 0, 0}, {1, 0, 1, 0, 0}, {0, 0, 0, 0, 0}, {0, 0, 0, 0, 0}};
        for (int place = 0; place < 10; place++) {
            for (int kind = 0; kind < 5; kind++) {
                int at = place;
                int asked = kind;
                toldOnly(y -> y.is(at, asked), ofKind[place][kind]);
            }
        }

        says(22, "BAD.");
        refusedFor((y, place) -> y.is(place, 0), BAD, LEAST, -1, 10, MOST);
        refusedFor((y, kind) -> y.is(0, kind), BAD, LEAST, -1, 5, MOST);
        refusedFor((y, kind) -> y.is(9, kind), BAD, -1, 5);
    }

    private static void as() {
        says(23, "A COVER is taken as one of a KIND (0 .. 4): its SHEETS.");
        answered(y -> y.as(0, 0), 12);
        answered(y -> y.as(1, 0), 3);
        answered(y -> y.as(1, 1), 3);
        answered(y -> y.as(2, 2), 3);
        answered(y -> y.as(3, 2), 4);
        answered(y -> y.as(3, 3), 4);
        answered(y -> y.as(4, 0), 6);
        answered(y -> y.as(4, 2), 6);
        answered(y -> y.as(4, 3), 6);
        answered(y -> y.as(4, 4), 6);

        says(23, "BAD;");
        refusedFor((y, place) -> y.as(place, 0), BAD, LEAST, -1, 10, MOST);
        refusedFor((y, kind) -> y.as(4, kind), BAD, LEAST, -1, 5, MOST);
        refusedFor((y, kind) -> y.as(9, kind), BAD, -1, 5);

        says(23, "NULL;");
        refusedFor((y, kind) -> y.as(9, kind), NULL, 0, 1, 2, 3, 4);
        refused(y -> y.as(8, 0), NULL);

        says(23, "KIND: it is not that, too.");
        refusedFor((y, kind) -> y.as(0, kind), KIND, 1, 2, 3, 4);
        refusedFor((y, kind) -> y.as(1, kind), KIND, 2, 3, 4);
        refusedFor((y, kind) -> y.as(2, kind), KIND, 1, 3, 4);
        refusedFor((y, kind) -> y.as(3, kind), KIND, 1, 4);
        refusedFor((y, kind) -> y.as(4, kind), KIND, 1);
    }

    private static void ask() {
        says(24, "An ASK (0, 1) of a COVER.");
        int[] sizes = {12, 7, 4, 12, 124, 4, 5, 8};
        int[] marks = {1, 1, 101, 101, 104, 2, 1, 101};
        for (int place = 0; place < 8; place++) {
            int at = place;
            answered(y -> y.ask(at, 0), sizes[place]);
            answered(y -> y.ask(at, 1), marks[place]);
        }

        says(24, "BAD;");
        refusedFor((y, place) -> y.ask(place, 0), BAD, LEAST, -1, 10, MOST);
        refusedFor((y, what) -> y.ask(0, what), BAD, LEAST, -1, 2, MOST);
        refusedFor((y, what) -> y.ask(9, what), BAD, -1, 2);

        says(24, "NULL.");
        SphereSheets empty = furnished();
        due(empty.ask(9, 0), NULL);
        due(empty.status(), 1);
        due(empty.ask(8, 1), NULL);
        due(empty.status(), 1);

        says(24, "THE TRACE is empty ahead of it, if it is not BAD.");
        lay(0, 1, 1);
        lay(1, 6, 3, 0, 5, 4, 3, 2, 1, 5, 0, 1, 2, 3, 4);
        due(x.ask(1, 0), 124);
        due(x.trace(6), 20);
        due(x.ask(10, 0), BAD);
        due(x.ask(0, 2), BAD);
        due(x.trace(0), 14);
        due(x.trace(6), 20);
        due(x.ask(0, 0), 1);
        due(x.trace(0), 10);
        due(x.trace(1), NONE);
        due(x.ask(9, 0), NULL);
        due(x.trace(0), NONE);
        due(x.ask(9, 2), BAD);
        due(x.trace(0), NONE);
        due(x.ask(1, 1), 104);
        due(x.trace(0), 22);
        due(x.trace(2), 20);
        due(x.trace(3), NONE);
    }

    private static void trace() {
        says(25, "Number i of THE TRACE; NONE.");
        due(x.trace(0), NONE);
        int[] numbers = {14, 13, 12, 10, 22, 21, 20};
        for (int i = 0; i < 20; i++) {
            int at = i;
            toldOnly(y -> y.trace(at), i < numbers.length ? numbers[i] : NONE);
        }
        toldOnly(y -> y.trace(-1), NONE);
        toldOnly(y -> y.trace(LEAST), NONE);
        toldOnly(y -> y.trace(MOST), NONE);
        // Only an ask begins it anew.
        SphereSheets y = furnished();
        y.clear(4);
        y.drop(0);
        y.kind(0);
        due(y.trace(0), 14);
    }
}
