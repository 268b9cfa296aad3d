/** Promises 6 to 13. */
final class CoverSentences extends Sentences {
    private CoverSentences() {
    }

    static void run() {
        cover();
        coverRefused();
        part();
        name();
        between();
        braid();
        turn();
        over();
        clear();
    }

    private static void cover() {
        says(6, "A place has the COVER of n SHEETS and k TURNS, of which all but the last are ITEMS of a ROW from i on, "
            + "n for each;");
        fill(x, 0, 0, joined(shifts(12, 1, 2, 3, 4), shifts(12, 5, 6, 7, 8)));
        due(x.cover(0, 0, 0, 12, 8), 0);
        dueTurn(0, 0, shifts(12, 1));
        dueTurn(0, 6, shifts(12, 7));
        due(x.cover(0, 0, 12, 12, 8), 0);
        dueTurn(0, 0, shifts(12, 2));
        dueTurn(0, 6, shifts(12, 8));
        due(x.leads(0, 8, 0), BAD);
        due(x.cover(9, 0, 95, 1, 1), 0);
        due(x.told(9, 0), 1);
        due(x.told(9, 1), 1);
        due(x.cover(9, 0, 96, 12, 1), 0);
        due(x.told(9, 0), 12);
        due(x.told(9, 1), 1);
        due(x.cover(9, 0, 11, 1, 2), 0);
        due(x.told(9, 1), 2);
        fill(x, 1, 1, 5, 1, 0, 0, 1, 1, 0, 5);
        due(x.cover(8, 1, 1, 2, 4), 0);
        dueTurn(8, 0, 1, 0);
        dueTurn(8, 1, 0, 1);
        dueTurn(8, 2, 1, 0);
        due(x.drop(1), 8);
        fill(x, 1, 2);
        due(x.cover(8, 1, 0, 12, 1), 0);

        says(6, "the last one CLOSES.");
        lay(0, 12, 8, shifts(12, 1, 2, 3, 4, 5, 6, 7));
        dueTurn(0, 7, shifts(12, 8));
        dueCloses(0);
        lay(0, 3, 3, 1, 2, 0, 1, 0, 2);
        dueTurn(0, 2, 0, 2, 1);
        dueCloses(0);
        lay(0, 4, 2, 1, 2, 3, 0);
        dueTurn(0, 1, 3, 0, 1, 2);
        lay(0, 3, 1);
        dueTurn(0, 0, 0, 1, 2);
    }

    private static void coverRefused() {
        says(6, "BAD: place, ROW, n, k;");
        refusedFor((y, place) -> y.cover(place, 0, 0, 2, 2), BAD, LEAST, -1, 10, MOST);
        refusedFor((y, row) -> y.cover(0, row, 0, 2, 2), BAD, LEAST, -1, 8, MOST);
        refusedFor((y, n) -> y.cover(0, 0, 0, n, 1), BAD, LEAST, -1, 0, 13, MOST);
        refusedFor((y, k) -> y.cover(0, 0, 0, 1, k), BAD, LEAST, -1, 0, 9, MOST);
        refusedFor((y, n) -> y.cover(0, 4, 0, n, 1), BAD, 0, 13);
        refusedFor((y, k) -> y.cover(0, 4, -1, 1, k), BAD, 0, 9);
        refused(y -> y.cover(10, 4, 0, 1, 1), BAD);

        says(6, "NULL;");
        refusedFor((y, row) -> y.cover(0, row, 0, 2, 2), NULL, 4, 7);
        refused(y -> y.cover(9, 4, -1, 1, 1), NULL);

        says(6, "PLACE;");
        refusedFor((y, i) -> y.cover(0, 0, i, 2, 2), PLACE, LEAST, -1, 5, 6, MOST);
        refusedFor((y, i) -> y.cover(9, 0, i, 3, 3), PLACE, -1, 1, MOST - 5, MOST);
        refusedFor((y, i) -> y.cover(0, 0, i, 12, 1), PLACE, LEAST, -1, 7, MOST);
        refused(y -> y.cover(0, 0, 0, 12, 8), PLACE);
        refused(y -> y.cover(0, 3, 0, 1, 2), PLACE);
        refused(y -> y.cover(9, 0, 3, 2, 3), PLACE);
        answered(y -> y.cover(0, 0, 0, 2, 2), 1);
        answered(y -> y.cover(0, 0, 6, 12, 1), 0);
        answered(y -> y.cover(0, 3, 0, 12, 1), 0);

        says(6, "then BAD: one is no order.");
        refused(y -> y.cover(0, 0, 0, 1, 2), BAD);
        refused(y -> y.cover(0, 0, 0, 2, 3), BAD);
        refused(y -> y.cover(9, 0, 3, 3, 2), BAD);
        dueNoOrder(-1, 1, 2);
        dueNoOrder(0, 1, 3);
        dueNoOrder(0, 1, 1);
        dueNoOrder(2, 1, 2);
        dueNoOrder(256, 1, 2);
        dueNoOrder(LEAST, 1, 2);
        dueNoOrder(MOST, 1, 2);
        dueNoOrder(32, 1, 2);
    }

    private static void dueNoOrder(int a, int b, int c) {
        refused(y -> {
            fill(y, 4, 2, a, b, c);
            int answer = y.cover(9, 4, 0, 3, 2);
            y.drop(4);
            y.copy(0, 0, 1, 0, 0);
            return answer;
        }, BAD);
    }

    private static void part() {
        says(7, "A place has PART p of a COVER, its SHEETS by rising numbers.");
        due(lay(0, 6, 3, 4, 1, 3, 5, 0, 2, 0, 1, 5, 2, 4, 3), 2);
        due(x.part(1, 0, 0), 3);
        dueTurn(1, 0, 1, 0);
        dueTurn(1, 1, 0, 1);
        due(x.part(2, 0, 1), 2);
        dueTurn(2, 2, 0);
        due(x.part(3, 0, 2), 2);
        dueTurn(3, 0, 1, 2, 0);
        dueTurn(3, 1, 2, 0, 1);
        due(x.told(0, 0), 6);
        due(x.part(0, 0, 2), 2);
        due(x.told(0, 0), 3);
        due(x.part(9, 0, 0), 2);
        due(x.told(9, 0), 3);
        lay(4, 12, 2, shifts(12, 0));
        due(x.part(5, 4, 11), 0);
        due(x.told(5, 0), 1);
        due(x.told(5, 1), 2);
        // Of a SIMPLE one in parts none need be SIMPLE.
        due(lay(6, 4, 4, joined(exchanging(4, 0, 1), exchanging(4, 2, 3), exchanging(4, 0, 1))), 1);
        due(x.part(7, 6, 0), 0);
        due(x.part(7, 6, 1), 0);

        says(7, "BAD: places;");
        refusedFor((y, to) -> y.part(to, 0, 0), BAD, LEAST, -1, 10, MOST);
        refusedFor((y, place) -> y.part(0, place, 0), BAD, LEAST, -1, 10, MOST);
        refused(y -> y.part(10, 9, 0), BAD);

        says(7, "NULL;");
        refusedFor((y, place) -> y.part(0, place, 0), NULL, 8, 9);
        refused(y -> y.part(0, 9, -1), NULL);

        says(7, "then BAD: p.");
        refusedFor((y, p) -> y.part(9, 0, p), BAD, LEAST, -1, 1, MOST);
        refusedFor((y, p) -> y.part(5, 5, p), BAD, LEAST, -1, 2, 3, MOST);
        answered(y -> y.part(0, 5, 1), 1);
    }

    private static void name() {
        says(8, "A place has the LEAST NAME of a COVER.");
        due(lay(0, 4, 3, 1, 0, 3, 2, 2, 1, 0, 3), 2);
        due(x.name(1, 0), 2);
        dueTurn(1, 0, 1, 0, 3, 2);
        dueTurn(1, 1, 0, 2, 1, 3);
        dueTurn(0, 1, 2, 1, 0, 3);
        due(x.name(0, 0), 2);
        dueTurn(0, 1, 0, 2, 1, 3);
        due(lay(2, 1, 1), 0);
        due(x.name(9, 2), 0);
        due(x.told(9, 0), 1);
        due(lay(3, 12, 8, shifts(12, 7, 0, 0, 0, 0, 0, 0)), 0);
        due(x.name(3, 3), 0);
        due(x.told(3, 1), 8);
        // TURN 0 leads to the next number, TURN 7 back: it gives numbers as well.
        dueTurn(3, 0, 1, 3, 0, 5, 2, 7, 4, 9, 6, 11, 8, 10);
        dueTurn(3, 1, shifts(12, 0));
        dueTurn(3, 7, 2, 0, 4, 1, 6, 3, 8, 5, 10, 7, 11, 9);

        says(8, "BAD: places;");
        refusedFor((y, to) -> y.name(to, 0), BAD, LEAST, -1, 10, MOST);
        refusedFor((y, place) -> y.name(0, place), BAD, LEAST, -1, 10, MOST);
        refused(y -> y.name(10, 9), BAD);
        refused(y -> y.name(10, 5), BAD);

        says(8, "NULL;");
        refusedFor((y, place) -> y.name(0, place), NULL, 8, 9);

        says(8, "KIND: it is not WHOLE.");
        refused(y -> y.name(0, 5), KIND);
        refused(y -> y.name(5, 5), KIND);
        refused(y -> y.name(9, 5), KIND);
    }

    private static void between() {
        says(9, "A place has what is BETWEEN by the BLOCKS of two SHEETS.");
        due(lay(0, 6, 3, 1, 2, 0, 4, 5, 3, 3, 5, 4, 0, 2, 1), 3);
        due(x.between(1, 0, 0, 1), 4);
        dueTurn(1, 0, 0, 1);
        dueTurn(1, 1, 1, 0);
        due(x.between(2, 0, 3, 0), 2);
        dueTurn(2, 0, 1, 2, 0);
        dueTurn(2, 1, 0, 2, 1);
        due(x.between(3, 0, 5, 5), 3);
        dueTurn(3, 0, 1, 2, 0, 4, 5, 3);
        dueTurn(3, 1, 3, 5, 4, 0, 2, 1);
        lay(4, 12, 2, shifts(12, 1));
        due(x.between(4, 4, 0, 11), 0);
        due(x.told(4, 0), 1);
        due(x.told(4, 1), 2);
        due(x.between(9, 4, 0, 0), 0);
        due(x.told(9, 0), 1);

        says(9, "BAD: places;");
        refusedFor((y, to) -> y.between(to, 0, 0, 0), BAD, LEAST, -1, 10, MOST);
        refusedFor((y, place) -> y.between(0, place, 0, 0), BAD, LEAST, -1, 10, MOST);
        refused(y -> y.between(10, 9, 0, 0), BAD);
        refused(y -> y.between(10, 5, 0, 0), BAD);

        says(9, "NULL;");
        refusedFor((y, place) -> y.between(0, place, 0, 0), NULL, 8, 9);
        refused(y -> y.between(0, 9, -1, 99), NULL);

        says(9, "KIND: it is not WHOLE;");
        refused(y -> y.between(0, 5, 0, 0), KIND);
        refused(y -> y.between(0, 5, -1, 99), KIND);

        says(9, "then BAD: a, b.");
        refusedFor((y, a) -> y.between(9, 2, a, 0), BAD, LEAST, -1, 3, MOST);
        refusedFor((y, b) -> y.between(9, 2, 0, b), BAD, LEAST, -1, 3, MOST);
        refusedFor((y, a) -> y.between(9, 2, a, a), BAD, -1, 3);
        answered(y -> y.between(9, 2, 2, 2), 2);
    }

    private static void braid() {
        says(10, "A place has a COVER with TURNS j, j + 1 LED PAST, forward (how = 0), back (1).");
        due(lay(0, 3, 3, 1, 2, 0, 1, 0, 2), 2);
        due(x.braid(1, 0, 0, 0), 2);
        dueTurn(1, 0, 1, 0, 2);
        dueTurn(1, 1, 2, 0, 1);
        dueTurn(1, 2, 0, 2, 1);
        due(x.braid(2, 0, 0, 1), 2);
        dueTurn(2, 0, 2, 1, 0);
        dueTurn(2, 1, 1, 2, 0);
        dueTurn(2, 2, 0, 2, 1);
        due(x.braid(9, 0, 1, 0), 2);
        dueTurn(9, 0, 1, 2, 0);
        dueTurn(9, 1, 0, 2, 1);
        dueCloses(9);
        due(x.braid(0, 9, 1, 1), 2);
        dueTurn(0, 1, 1, 0, 2);
        dueTurn(0, 2, 0, 2, 1);
        lay(3, 12, 8, shifts(12, 1, 2, 3, 4, 5, 6, 7));
        due(x.braid(3, 3, 6, 0), 0);
        dueTurn(3, 6, shifts(12, 8));
        dueTurn(3, 7, shifts(12, 7));
        dueTurn(3, 5, shifts(12, 6));
        due(lay(4, 2, 2, 1, 0), 1);
        due(x.braid(4, 4, 0, 1), 1);

        says(10, "BAD: places, how;");
        refusedFor((y, to) -> y.braid(to, 0, 0, 0), BAD, LEAST, -1, 10, MOST);
        refusedFor((y, place) -> y.braid(0, place, 0, 0), BAD, LEAST, -1, 10, MOST);
        refusedFor((y, how) -> y.braid(1, 0, 0, how), BAD, LEAST, -1, 2, MOST);
        refusedFor((y, how) -> y.braid(1, 9, 0, how), BAD, -1, 2);
        refused(y -> y.braid(10, 9, 0, 0), BAD);

        says(10, "NULL;");
        refusedFor((y, place) -> y.braid(0, place, 0, 0), NULL, 8, 9);
        refused(y -> y.braid(0, 9, -1, 1), NULL);

        says(10, "then BAD: j.");
        refusedFor((y, j) -> y.braid(9, 0, j, 0), BAD, LEAST, -1, 7, 8, MOST);
        refusedFor((y, j) -> y.braid(2, 2, j, 1), BAD, LEAST, -1, 2, 3, MOST);
        due(lay(0, 12, 1), 0);
        due(x.braid(0, 0, 0, 0), BAD);
        due(x.braid(0, 0, 0, 1), BAD);
        due(x.braid(0, 0, -1, 0), BAD);
        answered(y -> y.braid(0, 0, 6, 1), 0);
        answered(y -> y.braid(5, 5, 0, 1), 0);
    }

    private static void turn() {
        says(11, "A place has the MIRROR (how = 0), DUAL (1) of a COVER.");
        due(lay(0, 3, 4, 1, 2, 0, 1, 0, 2, 0, 1, 2), 0);
        due(x.turn(1, 0, 0), 0);
        dueTurn(1, 0, 0, 2, 1);
        dueTurn(1, 1, 0, 1, 2);
        dueTurn(1, 2, 1, 0, 2);
        dueTurn(1, 3, 2, 0, 1);
        due(lay(2, 6, 3, 1, 2, 3, 4, 5, 0, 0, 5, 4, 3, 2, 1), 3);
        due(x.turn(9, 2, 1), 4);
        dueTurn(9, 0, 0, 5, 4, 3, 2, 1);
        dueTurn(9, 1, 5, 0, 1, 2, 3, 4);
        dueTurn(9, 2, 5, 4, 3, 2, 1, 0);
        due(x.turn(9, 9, 1), 3);
        due(lay(3, 12, 1), 0);
        due(x.turn(3, 3, 0), 0);
        dueTurn(3, 0, shifts(12, 0));
        answered(y -> y.turn(5, 5, 0), 0);
        answered(y -> y.turn(0, 2, 1), 2);
        answered(y -> y.turn(0, 4, 1), 3);

        says(11, "BAD: places, how;");
        refusedFor((y, to) -> y.turn(to, 2, 0), BAD, LEAST, -1, 10, MOST);
        refusedFor((y, place) -> y.turn(0, place, 0), BAD, LEAST, -1, 10, MOST);
        refusedFor((y, how) -> y.turn(0, 2, how), BAD, LEAST, -1, 2, MOST);
        refusedFor((y, how) -> y.turn(0, 9, how), BAD, -1, 2);
        refused(y -> y.turn(10, 0, 1), BAD);

        says(11, "NULL;");
        refusedFor((y, place) -> y.turn(0, place, 0), NULL, 8, 9);
        refusedFor((y, place) -> y.turn(0, place, 1), NULL, 8, 9);

        says(11, "KIND: no THREE (of 1).");
        refusedFor((y, place) -> y.turn(9, place, 1), KIND, 0, 1, 5, 6);
        refused(y -> y.turn(5, 5, 1), KIND);
    }

    private static void over() {
        says(12, "A place has a OVER b.");
        due(lay(0, 3, 2, 1, 2, 0), 0);
        due(lay(1, 2, 2, 1, 0), 1);
        due(x.over(2, 0, 1), 0);
        dueTurn(2, 0, 3, 2, 5, 4, 1, 0);
        dueTurn(2, 1, 5, 4, 1, 0, 3, 2);
        due(x.over(9, 1, 0), 0);
        dueTurn(9, 0, 4, 5, 3, 1, 2, 0);
        due(x.over(1, 1, 1), 0);
        dueTurn(1, 0, 3, 2, 1, 0);
        due(x.over(1, 0, 1), 0);
        due(x.told(1, 0), 12);
        lay(3, 1, 2, 0);
        due(x.over(4, 1, 3), 0);
        due(x.told(4, 0), 12);
        due(x.over(4, 3, 1), 0);
        due(x.told(4, 0), 12);
        due(x.over(3, 3, 3), 0);
        due(x.told(3, 0), 1);

        says(12, "BAD: places;");
        refusedFor((y, to) -> y.over(to, 2, 2), BAD, LEAST, -1, 10, MOST);
        refusedFor((y, a) -> y.over(0, a, 2), BAD, LEAST, -1, 10, MOST);
        refusedFor((y, b) -> y.over(0, 2, b), BAD, LEAST, -1, 10, MOST);
        refused(y -> y.over(0, 9, 10), BAD);
        refused(y -> y.over(0, -1, 9), BAD);

        says(12, "NULL (a, then b);");
        refused(y -> y.over(0, 9, 2), NULL);
        refused(y -> y.over(0, 2, 9), NULL);
        refused(y -> y.over(0, 8, 9), NULL);

        says(12, "then BAD: they have unlike k;");
        refused(y -> y.over(9, 2, 1), BAD);
        refused(y -> y.over(9, 5, 2), BAD);
        refused(y -> y.over(9, 0, 7), BAD);

        says(12, "FULL: more than 12 SHEETS.");
        refused(y -> y.over(9, 7, 2), FULL);
        refused(y -> y.over(7, 7, 7), FULL);
        refused(y -> y.over(9, 4, 2), FULL);
        refused(y -> y.over(9, 0, 0), FULL);
        answered(y -> y.over(9, 3, 2), 3);
        answered(y -> y.over(9, 2, 3), 3);
        lay(0, 7, 1);
        lay(1, 2, 1);
        due(x.over(2, 0, 1), FULL);
        due(x.over(2, 1, 0), FULL);
        lay(0, 6, 1);
        due(x.over(2, 0, 1), 0);
        due(x.told(2, 0), 12);
    }

    private static void clear() {
        says(13, "A place is empty from now on: 1; 0: it was.");
        SphereSheets y = furnished();
        for (int place = 0; place < 10; place++) {
            due(y.clear(place), place < 8 ? 1 : 0);
            due(y.clear(place), 0);
            due(y.is(place, 0), 0);
            due(y.count(1), Math.max(7 - place, 0));
        }
        due(y.status(), FOUND_AHEAD);
        due(y.kind(0), NULL);
        due(y.clear(0), 0);
        due(y.status(), 1);

        says(13, "BAD.");
        refusedFor((z, place) -> z.clear(place), BAD, LEAST, -1, 10, MOST);
        toldOnly(z -> z.clear(9), 0);
    }
}
