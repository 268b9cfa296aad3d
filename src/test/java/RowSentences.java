/** Promises 1 to 5. */
final class RowSentences extends Sentences {
    private RowSentences() {
    }

    static void run() {
        newObject();
        row();
        set();
        copy();
        copyRefused();
        drop();
    }

    private static void newObject() {
        says(1, "No ROWS, an empty SHELF.");
        for (int what = 0; what <= 6; what++) {
            due(x.count(what), 0);
        }
        due(x.status(), 0);
        due(x.trace(0), NONE);
        for (int row = 0; row < 8; row++) {
            due(x.drop(row), NULL);
        }
        for (int place = 0; place < 10; place++) {
            due(x.is(place, 0), 0);
            due(x.clear(place), 0);
            due(x.kind(place), NULL);
        }
        furnished();
        SphereSheets another = new SphereSheets();
        due(another.count(0), 0);
        due(another.count(1), 0);
        due(another.status(), 0);
        due(another.trace(0), NONE);
    }

    private static void row() {
        says(2, "A ROW of a LANE with n ITEMS,");
        due(x.row(0, 0, 0), 0);
        due(x.set(0, 0, 1), PLACE);
        due(x.row(7, 2, 96), 96);
        due(x.set(7, 95, MOST), MOST);
        due(x.set(7, 96, 1), PLACE);
        due(x.row(3, 1, 1), 1);
        due(x.set(3, 0, 32768), -32768);
        due(x.set(3, 1, 1), PLACE);
        due(x.count(0), 3);

        says(2, "in place of what is there: n.");
        fill(x, 0, 2, 7, 7, 7, 7);
        due(x.row(0, 0, 2), 2);
        due(x.set(0, 2, 0), PLACE);
        due(x.set(0, 1, 256), 0);
        due(x.row(0, 2, 4), 4);
        // No ITEM is what it was: all lead SHEET 0 of one.
        due(x.cover(0, 0, 0, 1, 5), 0);
        due(x.row(0, 1, 0), 0);
        due(x.drop(0), 0);

        says(2, "BAD: ROW, LANE, n above 96;");
        refusedFor((y, row) -> y.row(row, 0, 1), BAD, LEAST, -1, 8, MOST);
        refusedFor((y, lane) -> y.row(0, lane, 1), BAD, LEAST, -1, 3, MOST);
        refusedFor((y, n) -> y.row(0, 0, n), BAD, 97, MOST);
        refusedFor((y, row) -> y.row(row, 0, -1), BAD, -1, 8);
        refusedFor((y, lane) -> y.row(0, lane, -1), BAD, -1, 3);

        says(2, "SIZE.");
        refusedFor((y, n) -> y.row(0, 0, n), SIZE, -1, LEAST);
        refusedFor((y, n) -> y.row(4, 2, n), SIZE, -1, LEAST);
    }

    private static void set() {
        says(3, "ITEM i becomes v, its lowest bits, as many as the LANE has: what it is then.");
        int[][] bytes = {{127, 127}, {128, -128}, {255, -1}, {256, 0}, {300, 44}, {-128, -128}, {-129, 127}, {MOST, -1},
            {LEAST, 0}};
        int[][] shorts = {{32767, 32767}, {32768, -32768}, {65535, -1}, {65536, 0}, {-32768, -32768}, {-32769, 32767},
            {MOST, -1}, {LEAST, 0}};
        int[][] ints = {{MOST, MOST}, {LEAST, LEAST}, {65536, 65536}, {NONE, NONE}, {BAD, BAD}, {FULL, FULL},
            {NULL, NULL}, {STORE, STORE}};
        dueSet(0, bytes);
        dueSet(1, shorts);
        dueSet(2, ints);
        fill(x, 0, 0, 1, 2, 3);
        due(x.set(0, 1, 256 + 1), 1);
        lay(0, 4, 4, shifts(4, 1, 2, 3));
        due(x.lift(0, 0, 0, 1, 0), 1);
        due(x.lift(0, 0, 1, 1, 0), 1);
        due(x.lift(0, 0, 2, 1, 0), 3);

        says(3, "BAD: ROW;");
        refusedFor((y, row) -> y.set(row, 0, 0), BAD, LEAST, -1, 8, MOST);
        refusedFor((y, row) -> y.set(row, -1, 0), BAD, -1, 8);

        says(3, "NULL;");
        refusedFor((y, row) -> y.set(row, 0, 0), NULL, 4, 7);
        refused(y -> y.set(4, -1, 0), NULL);

        says(3, "PLACE.");
        refusedFor((y, i) -> y.set(0, i, 0), PLACE, LEAST, -1, 6, 96, MOST);
        refusedFor((y, i) -> y.set(3, i, 0), PLACE, -1, 0);
    }

    private static void dueSet(int lane, int[][] pairs) {
        x.row(5, lane, 2);
        for (int i = 0; i < pairs.length; i++) {
            due(x.set(5, i % 2, pairs[i][0]), pairs[i][1]);
            due(x.status(), 0);
        }
    }

    private static void copy() {
        says(4, "n ITEMS of a from i on come to b from j on, as they were ahead: n.");
        x.row(0, 1, 96);
        x.row(1, 1, 96);
        for (int i = 0; i < 96; i++) {
            x.set(0, i, i % 8 + 1);
        }
        lay(0, 12, 8, shifts(12, 1, 2, 3, 4, 5, 6, 7));
        due(x.copy(0, 0, 1, 0, 96), 96);
        due(x.status(), 0);
        due(x.lift(0, 1, 0, 1, 0), 1);
        due(x.lift(0, 1, 95, 1, 0), 8);
        due(x.copy(0, 95, 1, 0, 1), 1);
        due(x.lift(0, 1, 0, 1, 0), 8);
        due(x.lift(0, 1, 1, 1, 0), 2);
        due(x.copy(0, 0, 1, 95, 1), 1);
        due(x.lift(0, 1, 95, 1, 0), 1);
        due(x.lift(0, 1, 94, 1, 0), 7);
        due(x.copy(0, 96, 1, 96, 0), 0);
        due(x.copy(0, 0, 0, 0, 96), 96);
        dueRotated(1, 0, 5);
        dueRotated(0, 1, 5);
    }

    /** Within one ROW, from i to j, where the one reaches into the other. */
    private static void dueRotated(int i, int j, int n) {
        fill(x, 2, 0, 1, 2, 3, 4, 5, 6);
        due(x.copy(2, i, 2, j, n), n);
        int kept = i > j ? 5 : 0;
        for (int at = 0; at < 6; at++) {
            due(x.lift(0, 2, at, 1, 0), at == kept ? at + 1 : at + 1 + i - j);
        }
    }

    private static void copyRefused() {
        says(4, "BAD: ROWS;");
        refusedFor((y, a) -> y.copy(a, 0, 0, 0, 0), BAD, LEAST, -1, 8, MOST);
        refusedFor((y, b) -> y.copy(0, 0, b, 0, 0), BAD, LEAST, -1, 8, MOST);
        refused(y -> y.copy(4, 0, 8, 0, 0), BAD);
        refused(y -> y.copy(8, 0, 4, -1, 0), BAD);

        says(4, "NULL;");
        refused(y -> y.copy(4, 0, 0, 0, 0), NULL);
        refused(y -> y.copy(0, 0, 4, 0, 0), NULL);
        refused(y -> y.copy(4, 0, 4, 0, 0), NULL);
        refused(y -> y.copy(4, -1, 0, -1, -1), NULL);

        says(4, "STORE;");
        refused(y -> y.copy(0, 0, 1, 0, 1), STORE);
        refused(y -> y.copy(1, 0, 0, 0, 1), STORE);
        refused(y -> y.copy(1, 0, 3, 0, 0), STORE);
        refused(y -> y.copy(0, 0, 3, 0, 0), STORE);
        refused(y -> y.copy(0, -1, 1, -1, -1), STORE);

        says(4, "PLACE (i, j, n below 0, or beyond an end).");
        refusedFor((y, i) -> y.copy(1, i, 2, 0, 1), PLACE, LEAST, -1, 4, MOST);
        refusedFor((y, j) -> y.copy(1, 0, 2, j, 1), PLACE, LEAST, -1, 3, MOST);
        refusedFor((y, n) -> y.copy(1, 0, 2, 0, n), PLACE, LEAST, -1, 4, 5, MOST);
        refusedFor((y, n) -> y.copy(2, 1, 1, 1, n), PLACE, LEAST, -1, 3, MOST);
        refused(y -> y.copy(1, 5, 1, 0, 0), PLACE);
        refused(y -> y.copy(1, 0, 1, 5, 0), PLACE);
        refused(y -> y.copy(1, MOST, 1, MOST, MOST), PLACE);
        refused(y -> y.copy(1, 1, 1, 0, 4), PLACE);
        refused(y -> y.copy(3, 0, 3, 0, 1), PLACE);
        answered(y -> y.copy(1, 4, 2, 3, 0), 0);
        answered(y -> y.copy(3, 0, 3, 0, 0), 0);
        answered(y -> y.copy(1, 1, 2, 0, 3), 3);
    }

    private static void drop() {
        says(5, "A ROW is missing from now on: how many ITEMS it had.");
        answered(y -> y.drop(0), 6);
        answered(y -> y.drop(3), 0);
        x.row(7, 0, 96);
        due(x.drop(7), 96);
        due(x.count(0), 0);
        due(x.set(7, 0, 0), NULL);
        due(x.drop(7), NULL);
        due(x.row(7, 0, 1), 1);
        due(x.count(0), 1);

        says(5, "BAD;");
        refusedFor((y, row) -> y.drop(row), BAD, LEAST, -1, 8, MOST);

        says(5, "NULL.");
        refusedFor((y, row) -> y.drop(row), NULL, 4, 5, 6, 7);
    }
}
