/** Promises 26 to 29. */
final class CountedSentences extends Sentences {
    private static final int[] MANY = {1, 2, 3, 5, 7, 11, 15, 22, 30, 42};

    private CountedSentences() {
    }

    static void run() {
        joins();
        shapes();
        count();
        status();
        statusLeft();
    }

    private static void joins() {
        says(26, "JOINS of n SHEETS and m exchanges to SHAPE s.");
        toldOnly(y -> y.joins(2, 0, 0), 0);
        toldOnly(y -> y.joins(2, 0, 1), 1);
        toldOnly(y -> y.joins(2, 9, 0), 1);
        toldOnly(y -> y.joins(2, 9, 1), 0);
        toldOnly(y -> y.joins(10, 0, 41), 1);
        toldOnly(y -> y.joins(10, 0, 40), 0);
        toldOnly(y -> y.joins(10, 1, 40), 1);
        toldOnly(y -> y.joins(10, 8, 0), 0);
        toldOnly(y -> y.joins(10, 9, 0), 100000000);
        toldOnly(y -> y.joins(10, 2, 41), 45);

        says(26, "BAD as a long: n, m, s.");
        refusedFor((y, n) -> y.joins(n, 0, 0), BAD, LEAST, -1, 0, 1, 11, MOST);
        refusedFor((y, m) -> y.joins(2, m, 0), BAD, LEAST, -1, 10, MOST);
        refusedFor((y, s) -> y.joins(2, 0, s), BAD, LEAST, NONE, -1, 2, MOST);
        refusedFor((y, s) -> y.joins(10, 9, s), BAD, LEAST, NONE, -1, 42, MOST);
        for (int n = 2; n <= 10; n++) {
            due(x.joins(n, 0, MANY[n - 1] - 1), 1);
            due(x.joins(n, 0, MANY[n - 1]), BAD);
        }
    }

    private static void shapes() {
        says(27, "How many SHAPES of n (1 to 10) there are (s = NONE);");
        for (int n = 1; n <= 10; n++) {
            int sheets = n;
            toldOnly(y -> y.shapes(sheets, NONE, 0), MANY[n - 1]);
            toldOnly(y -> y.shapes(sheets, NONE, LEAST), MANY[n - 1]);
        }

        says(27, "the i-th length of SHAPE s;");
        int[][] six = {{6}, {5, 1}, {4, 2}, {4, 1, 1}, {3, 3}, {3, 2, 1}, {3, 1, 1, 1}, {2, 2, 2}, {2, 2, 1, 1},
            {2, 1, 1, 1, 1}, {1, 1, 1, 1, 1, 1}};
        for (int s = 0; s < six.length; s++) {
            for (int i = 0; i < six[s].length; i++) {
                due(x.shapes(6, s, i), six[s][i]);
            }
        }
        for (int n = 1; n <= 10; n++) {
            due(x.shapes(n, 0, 0), n);
            due(x.shapes(n, MANY[n - 1] - 1, 0), 1);
            due(x.shapes(n, MANY[n - 1] - 1, n - 1), 1);
        }
        toldOnly(y -> y.shapes(10, 41, 9), 1);

        says(27, "NONE: there are not so many lengths.");
        toldOnly(y -> y.shapes(1, 0, 1), NONE);
        toldOnly(y -> y.shapes(10, 41, 10), NONE);
        toldOnly(y -> y.shapes(10, 0, 1), NONE);
        toldOnly(y -> y.shapes(10, 0, MOST), NONE);
        toldOnly(y -> y.shapes(10, 0, -1), NONE);
        toldOnly(y -> y.shapes(10, 0, LEAST), NONE);

        says(27, "BAD: n, s.");
        refusedFor((y, n) -> y.shapes(n, NONE, 0), BAD, LEAST, -1, 0, 11, MOST);
        refusedFor((y, n) -> y.shapes(n, 0, 0), BAD, LEAST, -1, 0, 11, MOST);
        refusedFor((y, s) -> y.shapes(1, s, 0), BAD, LEAST, -1, 1, MOST);
        refusedFor((y, s) -> y.shapes(10, s, -1), BAD, LEAST, NONE - 1, NONE + 1, BAD, -1, 42, MOST);
        for (int n = 1; n <= 10; n++) {
            due(x.shapes(n, MANY[n - 1], 0), BAD);
        }
    }

    private static void dueCounts(SphereSheets y, int... counts) {
        for (int what = 0; what < 7; what++) {
            due(y.count(what), counts[what]);
        }
    }

    private static void count() {
        says(28, "How many: 0 ROWS, 1 COVERS, 2 SIMPLE, 3 THREE (MAPS, ONE, too), 4 MAPS (ONE, too), 5 ONE ones, as they "
            + "are told, 6 WHOLE ones.");
        dueCounts(x, 0, 0, 0, 0, 0, 0, 0);
        SphereSheets y = furnished();
        dueCounts(y, 4, 8, 1, 4, 2, 1, 7);
        due(y.status(), FOUND_AHEAD);
        y.clear(4);
        dueCounts(y, 4, 7, 1, 3, 1, 0, 6);
        y.clear(3);
        dueCounts(y, 4, 6, 1, 2, 0, 0, 5);
        y.clear(1);
        dueCounts(y, 4, 5, 0, 2, 0, 0, 4);
        y.clear(5);
        dueCounts(y, 4, 4, 0, 2, 0, 0, 4);
        // Exchanges alone, but of three TURNS: told THREE, and so it counts.
        lay(y, 5, 3, 3, 1, 0, 2, 0, 2, 1);
        dueCounts(y, 4, 5, 0, 3, 0, 0, 5);
        for (int i = 0; i < 10; i++) {
            lay(x, i, 2, 3, 0, 1, 1, 0);
        }
        for (int i = 0; i < 8; i++) {
            x.row(i, 0, 0);
        }
        dueCounts(x, 8, 10, 0, 10, 10, 10, 10);

        says(28, "BAD.");
        refusedFor((z, what) -> z.count(what), BAD, LEAST, -1, 7, MOST);
    }

    private static void status() {
        says(29, "Of the latest call with a ROW or a place of THE SHELF");
        dueFinding(4, y -> y.row(0, 0, -1));
        dueFinding(0, y -> y.row(0, 0, 1));
        dueFinding(2, y -> y.set(0, 6, 0));
        dueFinding(0, y -> y.set(0, 5, BAD));
        dueFinding(0, y -> y.copy(0, 0, 0, 0, 0));
        dueFinding(1, y -> y.drop(4));
        dueFinding(0, y -> y.drop(3));
        dueFinding(0, y -> y.cover(0, 0, 6, 1, 1));
        dueFinding(1, y -> y.part(0, 9, 0));
        dueFinding(0, y -> y.part(0, 5, 0));
        dueFinding(3, y -> y.name(0, 5));
        dueFinding(0, y -> y.name(0, 0));
        dueFinding(3, y -> y.between(0, 5, 0, 0));
        dueFinding(0, y -> y.between(0, 0, 0, 0));
        dueFinding(1, y -> y.braid(0, 9, 0, 0));
        dueFinding(0, y -> y.braid(0, 0, 0, 0));
        dueFinding(3, y -> y.turn(0, 0, 1));
        dueFinding(0, y -> y.turn(0, 0, 0));
        dueFinding(1, y -> y.over(0, 0, 9));
        dueFinding(0, y -> y.over(0, 2, 2));
        dueFinding(3, y -> y.told(5, 3));
        dueFinding(0, y -> y.told(0, 5));
        dueFinding(1, y -> y.leads(9, 0, 0));
        dueFinding(0, y -> y.leads(0, 0, 0));
        dueFinding(1, y -> y.shape(9, 0, 0));
        dueFinding(0, y -> y.shape(0, 0, 99));
        dueFinding(3, y -> y.block(5, 0, 0, 0));
        dueFinding(0, y -> y.block(0, 0, 0, 0));
        dueFinding(3, y -> y.same(5, 0));
        dueFinding(0, y -> y.same(0, 1));
        dueFinding(3, y -> y.ring(5));
        dueFinding(0, y -> y.ring(2));
        dueFinding(2, y -> y.lift(0, 0, 7, 0, 0));
        dueFinding(0, y -> y.lift(0, 0, 0, 0, 0));
        dueFinding(1, y -> y.kind(9));
        dueFinding(0, y -> y.kind(0));
        dueFinding(3, y -> y.as(0, 1));
        dueFinding(0, y -> y.as(0, 0));
        dueFinding(1, y -> y.ask(9, 0));
        dueFinding(0, y -> y.ask(0, 0));
    }

    private static void dueFinding(int number, Call call) {
        SphereSheets y = furnished();
        call.on(y);
        due(y.status(), number);
        due(y.status(), number);
    }

    private static void statusLeft() {
        says(29, "(but clear(), is())");
        dueFinding(FOUND_AHEAD, y -> y.clear(0));
        dueFinding(FOUND_AHEAD, y -> y.clear(9));
        dueFinding(FOUND_AHEAD, y -> y.is(0, 0));
        dueFinding(FOUND_AHEAD, y -> y.is(0, 4));
        dueFinding(FOUND_AHEAD, y -> y.is(9, 0));
        dueFinding(FOUND_AHEAD, y -> y.trace(0));
        dueFinding(FOUND_AHEAD, y -> y.joins(2, 0, 0));
        dueFinding(FOUND_AHEAD, y -> y.shapes(2, 0, 0));
        dueFinding(FOUND_AHEAD, y -> y.count(0));

        says(29, "that was not BAD, FULL:");
        dueFinding(FOUND_AHEAD, y -> y.over(0, 0, 0));
        dueFinding(FOUND_AHEAD, y -> y.ring(6));
        dueFinding(FOUND_AHEAD, y -> y.row(8, 0, 0));
        dueFinding(FOUND_AHEAD, y -> y.cover(0, 0, 3, 3, 2));
        dueFinding(FOUND_AHEAD, y -> y.part(0, 0, 1));
        dueFinding(FOUND_AHEAD, y -> y.ask(0, 2));
        due(x.row(0, 0, 1), 1);
        due(x.set(8, 0, 0), BAD);
        due(x.status(), 0);

        says(29, "the number of its FINDING;");
        due(x.set(0, 0, 0), NULL);
        due(x.status(), 1);
        x.row(0, 0, 1);
        due(x.set(0, 1, 0), PLACE);
        due(x.status(), 2);
        x.cover(0, 0, 0, 1, 1);
        due(x.as(0, 1), KIND);
        due(x.status(), 3);
        due(x.row(0, 0, -1), SIZE);
        due(x.status(), 4);
        x.row(1, 1, 1);
        due(x.copy(0, 0, 1, 0, 1), STORE);
        due(x.status(), 5);

        says(29, "0: it had none, or there was none.");
        due(x.status(), 0);
        x.row(8, 0, 0);
        x.clear(0);
        x.is(0, 0);
        x.count(0);
        due(x.status(), 0);
        x.drop(0);
        due(x.status(), 1);
        x.row(0, 2, 1);
        due(x.status(), 0);
        // An ITEM that looks like a FINDING is none.
        due(x.set(0, 0, NULL), NULL);
        due(x.status(), 0);
    }
}
