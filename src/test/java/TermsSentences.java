/** The document's head, and its terms but for those of counting and asking. */
final class TermsSentences extends Sentences {
    private TermsSentences() {
    }

    static void run() {
        calls();
        numbers();
        refusals();
        rows();
        shelf();
        cover();
        simple();
        three();
        parts();
        names();
        heap();
        blocks();
        ledPast();
        ring();
        mirrorAndDual();
        over();
        way();
    }

    private static void calls() {
        says(0, "An object is used for at most 512 calls after it has been made; what later calls answer is free.");
        lay(0, 12, 8, shifts(12, 1, 2, 3, 4, 5, 6, 7));
        lay(1, 6, 3, 0, 5, 4, 3, 2, 1, 5, 0, 1, 2, 3, 4);
        // Those were 87 and 15 calls.
        for (int call = 87 + 15; call < 504; call += 6) {
            x.ring(0);
            x.told(1, 5);
            x.braid(0, 0, call % 7, 0);
            x.name(1, 1);
            x.ask(1, 0);
            x.joins(call % 9 + 2, 9, 0);
        }
        due(x.ring(0), FULL);
        due(x.told(0, 5), 12);
        due(x.joins(10, 9, 0), 100000000);
        due(x.ask(1, 0), 124);
        due(x.trace(6), 20);
        due(x.kind(9), NULL);
        due(x.status(), 1);
        due(x.count(1), 2);
    }

    private static void numbers() {
        says(0, "Numbers go from 0 on.");
        due(x.row(0, 0, 1), 1);
        due(x.set(0, 0, 0), 0);
        due(x.cover(0, 0, 0, 1, 2), 0);
        due(x.leads(0, 0, 0), 0);
        due(x.shape(0, 0, 0), 1);
        due(x.block(0, 0, 0, 0), 0);
        due(x.part(0, 0, 0), 0);
        due(x.braid(0, 0, 0, 0), 0);
        due(x.ask(0, 0), 1);
        due(x.trace(0), 10);
        due(x.shapes(1, 0, 0), 1);
        due(x.joins(2, 0, 0), 0);
        due(x.told(0, 0), 1);
        due(x.is(0, 0), 1);
        due(x.count(0), 1);
        due(x.clear(0), 1);
        due(x.drop(0), 1);
    }

    private static void refusals() {
        says(0, "Refusals are answers, the first of these that fits: BAD (a number is not as told; there is no such thing), "
            + "FULL (as told), then FINDINGS, of several the first in time:");
        due(SphereSheets.NONE, NONE);
        due(SphereSheets.BAD, BAD);
        due(SphereSheets.FULL, FULL);
        refused(y -> y.row(8, 3, -1), BAD);
        refused(y -> y.copy(4, -1, 8, -1, -1), BAD);
        refused(y -> y.copy(4, -1, 0, -1, -1), NULL);
        refused(y -> y.copy(0, -1, 1, -1, -1), STORE);
        refused(y -> y.cover(0, 4, -1, 13, 9), BAD);
        refused(y -> y.cover(0, 4, -1, 12, 8), NULL);
        refused(y -> y.cover(0, 0, 3, 3, 3), PLACE);
        refused(y -> y.over(9, 0, 7), BAD);
        refused(y -> y.over(10, 0, 0), BAD);
        refused(y -> y.over(9, 7, 7), FULL);
        refused(y -> y.block(9, 99, 99, 99), NULL);
        refused(y -> y.block(5, 99, 99, 99), KIND);
        refused(y -> y.same(5, 9), KIND);
        refused(y -> y.same(9, 5), NULL);
        refused(y -> y.lift(9, 4, -1, 97, 99), BAD);
        refused(y -> y.lift(9, 0, -1, 96, 99), NULL);
        refused(y -> y.lift(0, 0, -1, 96, 99), PLACE);

        says(0, "-1000010 less 1 NULL (a ROW that is missing, a place of THE SHELF that is empty), 2 PLACE (no such place of "
            + "a ROW), 3 KIND (a COVER that is not that), 4 SIZE (fewer than none), 5 STORE (ROWS of two LANES).");
        refused(y -> y.drop(7), -1000010 - 1);
        refused(y -> y.kind(9), -1000010 - 1);
        refused(y -> y.set(0, 6, 0), -1000010 - 2);
        refused(y -> y.as(0, 4), -1000010 - 3);
        refused(y -> y.row(0, 0, -1), -1000010 - 4);
        refused(y -> y.copy(0, 0, 1, 0, 1), -1000010 - 5);

        says(0, "What is refused, or found, changes nothing but status() (and THE TRACE, by ask()).");
        refused(y -> y.ask(10, 0), BAD);
        refused(y -> y.ask(4, 2), BAD);
        refused(y -> y.row(0, 1, -1), SIZE);
        refused(y -> y.copy(1, 0, 2, 0, 4), PLACE);
        refused(y -> y.cover(0, 0, 2, 2, 2), BAD);
        refused(y -> y.over(0, 7, 7), FULL);
        SphereSheets y = furnished();
        due(y.trace(0), 14);
        due(y.ask(9, 0), NULL);
        due(y.status(), 1);
        due(y.trace(0), NONE);
        due(y.count(1), 8);
    }

    private static void rows() {
        says(0, "ROWS 0 .. 7 are missing (at first), or have a LANE (0 bytes, 1 shorts, 2 ints) and 0 to 96 ITEMS, 0 at "
            + "first.");
        for (int row = 0; row < 8; row++) {
            due(x.drop(row), NULL);
            due(x.row(row, row % 3, 96), 96);
            due(x.set(row, 95, 40000), row % 3 == 0 ? 64 : row % 3 == 1 ? -25536 : 40000);
            due(x.count(0), row + 1);
        }
        due(x.row(8, 0, 1), BAD);
        due(x.row(-1, 0, 1), BAD);
        due(x.row(0, 0, 97), BAD);
        due(x.row(0, 0, -1), SIZE);
        due(x.row(1, 1, 0), 0);
        due(x.set(1, 0, 0), PLACE);
        due(x.count(0), 8);
        // Each ITEM leads the one SHEET to itself, so it is 0; also where another ROW was.
        due(x.row(0, 0, 96), 96);
        for (int i = 0; i <= 89; i++) {
            due(x.cover(0, 0, i, 1, 8), 0);
        }
        due(x.drop(2), 96);
        due(x.row(2, 2, 96), 96);
        due(x.cover(0, 2, 95, 1, 2), 0);
    }

    private static void shelf() {
        says(0, "THE SHELF has places 0 .. 9, each empty (at first) or with a COVER;");
        x.row(0, 0, 0);
        for (int place = 0; place < 10; place++) {
            due(x.kind(place), NULL);
            due(x.is(place, 0), 0);
            due(x.cover(place, 0, 0, place + 1, 1), 0);
            due(x.count(1), place + 1);
        }
        for (int place = 0; place < 10; place++) {
            due(x.told(place, 0), place + 1);
        }
        due(x.cover(10, 0, 0, 1, 1), BAD);
        due(x.cover(-1, 0, 0, 1, 1), BAD);
        due(x.kind(10), BAD);
        due(x.kind(-1), BAD);

        says(0, "COVERS never change.");
        fill(x, 0, 0, 1, 2, 0, 1, 0, 2);
        x.cover(0, 0, 0, 3, 3);
        x.set(0, 0, 0);
        x.row(0, 2, 96);
        x.drop(0);
        due(x.braid(1, 0, 0, 0), 2);
        due(x.turn(2, 0, 0), 2);
        due(x.turn(3, 0, 1), 2);
        due(x.name(4, 0), 2);
        due(x.between(5, 0, 0, 0), 2);
        due(x.part(6, 0, 0), 2);
        due(x.ring(0), 3);
        due(x.told(0, 5), 6);
        dueTurn(0, 0, 1, 2, 0);
        dueTurn(0, 1, 1, 0, 2);
        dueTurn(0, 2, 0, 2, 1);
        due(x.clear(0), 1);
        dueTurn(5, 0, 1, 2, 0);
        dueTurn(6, 1, 1, 0, 2);
        due(x.braid(5, 6, 0, 0), 2);
        dueTurn(6, 0, 1, 2, 0);
    }

    private static void cover() {
        says(0, "A COVER: n SHEETS 0 .. n - 1 (n 1 to 12), and k TURNS (1 to 8), each an order of the SHEETS (SHEET x is led "
            + "to t(x)), so that TURN 0, then TURN 1, .., one behind the other, lead each SHEET to itself (they CLOSE).");
        for (int n = 1; n <= 12; n++) {
            for (int k = 1; k <= 8; k += 7) {
                lay(0, n, k, shifts(n, k == 1 ? new int[0] : new int[] {1, 1, 2, 3, 5, 8, 13}));
                due(x.told(0, 0), n);
                due(x.told(0, 1), k);
                due(x.leads(0, 0, n - 1), k == 1 ? n - 1 : 0);
                due(x.leads(0, 0, n), BAD);
                due(x.leads(0, k, 0), BAD);
            }
            x = new SphereSheets();
        }
        lay(0, 4, 4, 1, 2, 3, 0, 1, 0, 2, 3, 0, 2, 3, 1);
        dueTurn(0, 0, 1, 2, 3, 0);
        dueCloses(0);
        dueTurn(0, 3, 0, 2, 3, 1);
        due(x.row(0, 0, 96), 96);
        due(x.cover(1, 0, 0, 13, 1), BAD);
        due(x.cover(1, 0, 0, 0, 1), BAD);
        due(x.cover(1, 0, 0, 1, 9), BAD);
        due(x.cover(1, 0, 0, 1, 0), BAD);

        says(0, "ROUNDS of a TURN: SHEETS led to one another by it, going round. Its SHAPE: how long its ROUNDS are, the "
            + "longest first. KINDS:");
        lay(0, 12, 2, 0, 2, 1, 4, 5, 3, 7, 8, 9, 6, 11, 10);
        int[] lengths = {4, 3, 2, 2, 1, NONE};
        for (int i = 0; i < lengths.length; i++) {
            due(x.shape(0, 0, i), lengths[i]);
            due(x.shape(0, 1, i), lengths[i]);
        }
        lay(0, 12, 2, shifts(12, 8));
        due(x.shape(0, 0, 3), 3);
        due(x.shape(0, 0, 4), NONE);
    }

    private static void simple() {
        says(0, "0 COVER. 1 SIMPLE, a COVER: k is 2 or more; each TURN but the last leads two SHEETS to one another, all "
            + "others to themselves.");
        due(lay(0, 2, 1), 0);
        due(lay(0, 1, 2, 0), 0);
        due(lay(0, 2, 2, 1, 0), 1);
        due(lay(0, 2, 2, 0, 1), 0);
        due(lay(0, 12, 2, exchanging(12, 0, 11)), 1);
        due(lay(0, 12, 2, exchanging(12, 0, 11, 1, 2)), 0);
        due(lay(0, 12, 2, shifts(12, 6)), 0);
        due(lay(0, 3, 2, 1, 2, 0), 0);
        due(lay(0, 3, 4, 1, 0, 2, 0, 2, 1, 2, 1, 0), 1);
        due(lay(0, 3, 4, 1, 0, 2, 0, 2, 1, 0, 1, 2), 0);
        due(lay(0, 3, 4, 0, 1, 2, 0, 2, 1, 2, 1, 0), 0);
        due(lay(0, 3, 4, 1, 0, 2, 1, 2, 0, 2, 1, 0), 0);
        int[] one = exchanging(12, 0, 1);
        due(lay(0, 12, 8, joined(one, one, one, one, one, one, exchanging(12, 10, 11))), 1);
        x = new SphereSheets();
        due(lay(0, 12, 8, joined(one, one, one, one, one, one, exchanging(12, 10, 11, 0, 1))), 0);
        x = new SphereSheets();
        // The last TURN may lead as it likes: here it leaves all.
        due(lay(0, 12, 5, joined(one, one, one, one)), 1);
        dueTurn(0, 4, shifts(12, 0));
        due(x.is(0, 0), 1);
        due(x.is(0, 1), 1);
    }

    private static void three() {
        says(0, "2 THREE, a COVER: k is 3.");
        due(lay(0, 1, 2, 0), 0);
        due(lay(0, 1, 3, 0, 0), 2);
        due(lay(0, 1, 4, 0, 0, 0), 0);
        due(lay(0, 12, 3, shifts(12, 1, 1)), 2);
        due(lay(0, 12, 3, shifts(12, 0, 0)), 2);

        says(0, "3 MAP, a THREE one: the third TURN's ROUNDS are two SHEETS long all.");
        due(lay(0, 2, 3, 1, 0, 0, 1), 3);
        due(lay(0, 2, 3, 0, 1, 0, 1), 2);
        due(lay(0, 12, 3, shifts(12, 3, 3)), 3);
        due(lay(0, 12, 3, joined(exchanging(12, 0, 1, 2, 3, 4, 5, 6, 7, 8, 9), shifts(12, 0))), 2);
        due(lay(0, 12, 3, joined(exchanging(12, 0, 1, 2, 3, 4, 5, 6, 7, 8, 9, 10, 11), shifts(12, 0))), 3);
        due(lay(0, 3, 3, 1, 0, 2, 0, 1, 2), 2);
        due(lay(0, 4, 3, 1, 2, 3, 0, 0, 1, 2, 3), 2);
        due(lay(0, 4, 3, 0, 1, 2, 3, 2, 3, 0, 1), 3);
        due(lay(0, 6, 3, joined(shifts(6, 2), shifts(6, 0))), 2);
        due(lay(0, 2, 4, 1, 0, 0, 1, 0, 1), 0);

        says(0, "4 ONE, a MAP: the second TURN has one ROUND.");
        due(lay(0, 2, 3, 0, 1, 1, 0), 4);
        due(lay(0, 4, 3, shifts(4, 1, 1)), 4);
        due(lay(0, 12, 3, shifts(12, 1, 5)), 4);
        due(lay(0, 12, 3, shifts(12, 5, 1)), 4);
        due(lay(0, 12, 3, shifts(12, 4, 2)), 3);
        due(lay(0, 12, 3, shifts(12, 2, 4)), 3);
        due(lay(0, 12, 3, shifts(12, 6, 0)), 3);
        // One ROUND, but a third TURN that leaves one SHEET.
        due(lay(0, 3, 3, 1, 0, 2, 1, 2, 0), 2);
        due(lay(0, 1, 3, 0, 0), 2);

        says(0, "It is told as the first that fits of ONE, MAP, THREE, SIMPLE, COVER: by this it is asked.");
        // SIMPLE by its TURNS as well.
        due(lay(0, 3, 3, 1, 0, 2, 0, 2, 1), 2);
        due(lay(1, 4, 3, 1, 0, 2, 3, 0, 1, 3, 2), 3);
        due(x.is(0, 1), 0);
        due(x.is(1, 1), 0);
        due(x.as(0, 1), KIND);
        due(x.count(2), 0);
        due(x.ask(0, 0), 5);
        due(x.trace(0), 12);
        due(x.ask(1, 0), 14);
        due(x.trace(0), 13);
    }

    private static void parts() {
        says(0, "PARTS: SHEETS led to one another by TURNS (or by some behind one another); numbered by their least SHEETS. "
            + "WHOLE: one PART.");
        lay(0, 12, 1);
        due(x.told(0, 2), 12);
        due(x.count(6), 0);
        lay(0, 1, 1);
        due(x.told(0, 2), 1);
        due(x.count(6), 1);
        // A chain of exchanges: none leads the first to the last by itself.
        lay(0, 6, 6, joined(exchanging(6, 4, 5), exchanging(6, 3, 4), exchanging(6, 2, 3), exchanging(6, 1, 2),
            exchanging(6, 0, 1)));
        due(x.told(0, 2), 1);
        due(x.count(6), 1);
        lay(0, 6, 5, joined(exchanging(6, 4, 5), exchanging(6, 3, 4), exchanging(6, 1, 2), exchanging(6, 0, 1)));
        due(x.told(0, 2), 2);
        due(x.count(6), 0);
        lay(0, 7, 2, 6, 1, 5, 4, 3, 2, 0);
        due(x.told(0, 2), 4);
        int[] sheets = {2, 1, 2, 2};
        for (int p = 0; p < 4; p++) {
            due(x.part(1, 0, p), p == 1 ? 0 : 1);
            due(x.told(1, 0), sheets[p]);
        }
        due(x.part(1, 0, 4), BAD);

        says(0, "HOLES of a WHOLE one: half of (2 - 2 n and, over all TURNS, n less the number of its ROUNDS, added).");
        lay(0, 1, 1);
        due(x.told(0, 3), 0);
        lay(0, 2, 2, 1, 0);
        due(x.told(0, 3), 0);
        lay(0, 12, 2, shifts(12, 1));
        due(x.told(0, 3), 0);
        lay(0, 3, 3, shifts(3, 1, 1));
        due(x.told(0, 3), 1);
        lay(0, 12, 8, shifts(12, 1, 1, 1, 1, 1, 1, 1));
        due(x.told(0, 3), 33);
        lay(0, 12, 1);
        due(x.told(0, 3), KIND);
    }

    private static void names() {
        says(0, "LIKE are two COVERS with the same n and k, if the SHEETS of one may be named so that its TURNS are the "
            + "other's.");
        lay(0, 4, 3, 1, 0, 3, 2, 0, 2, 1, 3);
        lay(1, 4, 3, 3, 2, 1, 0, 1, 0, 2, 3);
        lay(2, 4, 3, 0, 2, 1, 3, 1, 0, 3, 2);
        lay(3, 4, 4, 1, 0, 3, 2, 0, 2, 1, 3, 1, 3, 0, 2);
        due(x.same(0, 1), 1);
        due(x.same(1, 0), 1);
        due(x.same(0, 2), 0);
        due(x.same(0, 3), 0);
        lay(4, 3, 2, 1, 2, 0);
        lay(5, 4, 2, 1, 2, 3, 0);
        due(x.same(4, 5), 0);
        lay(5, 3, 2, 2, 0, 1);
        due(x.same(4, 5), 1);

        says(0, "NAME of a WHOLE COVER from a SHEET: that SHEET is 0; then, for each SHEET by its new number, TURNS 0, 1, "
            + "..: the SHEET that it is led to gets the next number, if it has none.");
        // From each SHEET the name is the same, so it is seen how numbers are given: 0 to 3 (TURN 0), to 4 (TURN 1), ..
        lay(0, 5, 3, shifts(5, 3, 4));
        due(x.told(0, 4), 5);
        due(x.name(1, 0), 2);
        dueTurn(1, 0, 1, 3, 4, 2, 0);
        dueTurn(1, 1, 2, 4, 1, 0, 3);

        says(0, "The LEAST NAME: of the COVERS so renamed from each SHEET the one whose row (TURN 0 of SHEET 0, of 1, .., "
            + "TURN 1 of 0, ..) is the least.");
        // TURN 0 of SHEET 0 is the least from SHEET 2 alone.
        lay(0, 3, 3, 1, 0, 2, 0, 2, 1);
        x.name(1, 0);
        dueTurn(1, 0, 0, 2, 1);
        dueTurn(1, 1, 1, 0, 2);
        // TURN 0 of SHEET 0 is 1 from each, TURN 0 of SHEET 1 the least from SHEETS 0 and 1, TURN 1 of 0 from SHEET 1.
        lay(0, 5, 3, 1, 0, 3, 4, 2, 2, 1, 0, 3, 4);
        x.name(1, 0);
        dueTurn(1, 0, 1, 0, 4, 2, 3);
        dueTurn(1, 1, 0, 2, 1, 3, 4);
        due(x.told(0, 4), 1);
        // TURN 0 is the same from all, TURN 1 the least from two.
        lay(0, 4, 3, 1, 0, 3, 2, 2, 1, 0, 3);
        x.name(1, 0);
        dueTurn(1, 0, 1, 0, 3, 2);
        dueTurn(1, 1, 0, 2, 1, 3);
        dueTurn(1, 2, 1, 3, 0, 2);

        says(0, "LIKES of a WHOLE one: from how many SHEETS that is so.");
        due(x.kind(0), NULL);
        lay(0, 4, 3, 1, 0, 3, 2, 2, 1, 0, 3);
        due(x.told(0, 4), 2);
        lay(0, 1, 1);
        due(x.told(0, 4), 1);
        lay(0, 1, 8, 0, 0, 0, 0, 0, 0, 0);
        due(x.told(0, 4), 1);
        lay(0, 12, 2, shifts(12, 5));
        due(x.told(0, 4), 12);
        lay(0, 12, 3, joined(shifts(12, 1), exchanging(12, 0, 1)));
        due(x.told(0, 4), 1);
    }

    private static void heap() {
        says(0, "THE HEAP: all that TURNS do one behind another, in any number: how many orders of SHEETS.");
        lay(0, 1, 1);
        due(x.told(0, 5), 1);
        lay(0, 12, 8, shifts(12, 0, 0, 0, 0, 0, 0, 0));
        due(x.told(0, 5), 1);
        x = new SphereSheets();
        lay(0, 12, 2, shifts(12, 1));
        due(x.told(0, 5), 12);
        lay(0, 7, 2, 1, 0, 3, 4, 2, 5, 6);
        due(x.told(0, 5), 6);
        lay(0, 4, 3, joined(shifts(4, 1), exchanging(4, 0, 2)));
        due(x.told(0, 5), 8);
        lay(0, 4, 4, joined(exchanging(4, 0, 1, 2, 3), exchanging(4, 1, 2), exchanging(4)));
        due(x.told(0, 5), 8);
        // Four exchanges that do not meet, led round: each done or not, times four.
        lay(0, 8, 4, joined(exchanging(8, 2, 7), shifts(8, 6, 2)));
        due(x.told(0, 5), 64);
        lay(0, 12, 3, joined(shifts(12, 1), exchanging(12, 0, 1)));
        due(x.told(0, 5), 479001600);
        int[] three = exchanging(12);
        three[9] = 10;
        three[10] = 11;
        three[11] = 9;
        int[] eleven = joined(shifts(11, 1), new int[] {11});
        lay(0, 12, 3, joined(eleven, three));
        due(x.told(0, 5), 239500800);
        lay(0, 12, 2, eleven);
        due(x.told(0, 5), 11);
    }

    private static void blocks() {
        says(0, "BLOCKS of two SHEETS a, b of a WHOLE COVER: the finest parting of the SHEETS in which both are together, "
            + "and which each TURN leads to itself (whole parts to whole parts); numbered by their least SHEETS.");
        lay(0, 6, 3, 1, 2, 0, 4, 5, 3, 3, 5, 4, 0, 2, 1);
        int[] pairs = {0, 1, 2, 0, 1, 2};
        for (int sheet = 0; sheet < 6; sheet++) {
            due(x.block(0, 0, 3, sheet), pairs[sheet]);
            due(x.block(0, 4, 1, sheet), pairs[sheet]);
            due(x.block(0, 1, 2, sheet), sheet / 3);
            due(x.block(0, 5, 5, sheet), sheet);
        }
        due(x.block(0, 0, 3, -1), 3);
        due(x.block(0, 0, 1, -1), 2);
        lay(0, 4, 3, joined(shifts(4, 1), exchanging(4, 0, 2)));
        due(x.block(0, 1, 3, -1), 2);
        due(x.block(0, 1, 3, 2), 0);
        due(x.block(0, 3, 2, -1), 1);
        due(x.block(0, 3, 3, -1), 4);
        lay(0, 12, 3, joined(shifts(12, 1), exchanging(12, 0, 1)));
        due(x.block(0, 0, 6, -1), 1);
        due(x.block(0, 6, 6, -1), 12);
        lay(0, 12, 1);
        due(x.block(0, 0, 0, 0), KIND);

        says(0, "BETWEEN: the COVER whose SHEETS are the BLOCKS.");
        lay(0, 6, 3, 1, 2, 0, 4, 5, 3, 3, 5, 4, 0, 2, 1);
        due(x.between(1, 0, 0, 3), 2);
        dueTurn(1, 0, 1, 2, 0);
        dueTurn(1, 1, 0, 2, 1);
        dueTurn(1, 2, 2, 1, 0);
        due(x.between(1, 0, 2, 0), 4);
        dueTurn(1, 0, 0, 1);
        dueTurn(1, 1, 1, 0);
        due(x.between(1, 0, 2, 3), 2);
        dueTurn(1, 0, 1, 2, 0);
        dueTurn(1, 1, 2, 1, 0);
        due(x.between(1, 0, 2, 2), 3);
        due(x.told(1, 0), 6);
        lay(0, 12, 3, shifts(12, 1, 1));
        due(x.between(1, 0, 5, 0), 2);
        due(x.told(1, 0), 1);
        due(x.told(1, 1), 3);
    }

    private static void ledPast() {
        says(0, "LED PAST: of TURNS j, j + 1: forward: TURN j becomes what TURN j + 1 was, TURN j + 1 what leads x by the "
            + "inverse of that one, then by what TURN j was, then by that one;");
        lay(0, 4, 3, 1, 2, 3, 0, 1, 2, 0, 3);
        x.braid(1, 0, 0, 0);
        dueTurn(1, 0, 1, 2, 0, 3);
        dueTurn(1, 1, 3, 2, 0, 1);
        for (int sheet = 0; sheet < 4; sheet++) {
            due(x.leads(1, 2, sheet), x.leads(0, 2, sheet));
        }

        says(0, "back: TURN j + 1 becomes what TURN j was, TURN j what leads x by that one, then by what TURN j + 1 was, "
            + "then by the inverse of that one.");
        lay(0, 4, 3, 1, 2, 3, 0, 1, 2, 0, 3);
        x.braid(1, 0, 0, 1);
        dueTurn(1, 0, 1, 3, 2, 0);
        dueTurn(1, 1, 1, 2, 3, 0);
        for (int sheet = 0; sheet < 4; sheet++) {
            due(x.leads(1, 2, sheet), x.leads(0, 2, sheet));
        }

        says(0, "(They CLOSE still.)");
        lay(0, 4, 5, 1, 2, 3, 0, 1, 2, 0, 3, 0, 3, 2, 1, 3, 1, 0, 2);
        for (int j = 0; j < 4; j++) {
            x.braid(1, 0, j, 0);
            dueCloses(1);
            x.braid(2, 1, j, 1);
            x.braid(1, 0, j, 1);
            dueCloses(1);
            for (int sheet = 0; sheet < 4; sheet++) {
                due(x.leads(2, j, sheet), x.leads(0, j, sheet));
                due(x.leads(2, j + 1, sheet), x.leads(0, j + 1, sheet));
            }
        }
    }

    private static void ring() {
        says(0, "The RING of a WHOLE COVER: all LEAST NAMES that are come to by leading past, forward, any j, any often "
            + "(its own, too): how many;");
        lay(0, 1, 1);
        due(x.ring(0), 1);
        lay(0, 2, 8, 1, 0, 1, 0, 1, 0, 1, 0, 1, 0, 1, 0, 1, 0);
        due(x.ring(0), 1);
        lay(0, 2, 3, 1, 0, 1, 0);
        due(x.ring(0), 3);
        // Four of eight TURNS exchange: as many names as choices of four.
        lay(0, 2, 8, 1, 0, 1, 0, 1, 0, 1, 0, 0, 1, 0, 1, 0, 1);
        due(x.ring(0), 70);
        due(x.told(0, 1), 8);

        says(0, "more than 300: FULL.");
        lay(0, 5, 5, 0, 1, 2, 3, 4, 0, 2, 1, 3, 4, 1, 3, 4, 2, 0, 4, 0, 1, 2, 3);
        due(x.ring(0), 300);
        due(x.status(), 0);
        due(x.kind(9), NULL);
        // Of 308 names: nearer ones beyond the bound were not found.
        lay(0, 7, 4, 5, 6, 3, 0, 2, 1, 4, 3, 5, 0, 6, 1, 2, 4, 2, 5, 6, 1, 0, 4, 3);
        due(x.as(0, 1), KIND);
        due(x.ring(0), FULL);
        due(x.status(), 3);
        // Of 310 names, and of 312.
        lay(0, 5, 5, 4, 3, 2, 1, 0, 4, 3, 2, 1, 0, 0, 2, 4, 1, 3, 4, 3, 2, 1, 0);
        due(x.ring(0), FULL);
        lay(0, 5, 4, 4, 2, 3, 1, 0, 2, 4, 1, 3, 0, 3, 1, 2, 0, 4);
        due(x.ring(0), FULL);
    }

    private static void mirrorAndDual() {
        says(0, "MIRROR: each TURN's inverse, the last TURN first.");
        lay(0, 4, 3, 1, 2, 3, 0, 1, 2, 0, 3);
        due(x.turn(1, 0, 0), 2);
        dueTurn(1, 2, 3, 0, 1, 2);
        dueTurn(1, 1, 2, 0, 1, 3);
        dueTurn(1, 0, 2, 0, 3, 1);
        dueCloses(1);
        due(x.turn(1, 1, 0), 2);
        dueTurn(1, 0, 1, 2, 3, 0);
        lay(0, 12, 8, shifts(12, 1, 2, 3, 4, 5, 6, 7));
        due(x.turn(0, 0, 0), 0);
        dueTurn(0, 0, shifts(12, 4));
        dueTurn(0, 7, shifts(12, 11));

        says(0, "DUAL of a THREE one: its TURN 1, its TURN 0, as they are led past: TURN 0 and 1 forward.");
        lay(0, 4, 3, 1, 2, 3, 0, 1, 2, 0, 3);
        due(x.turn(1, 0, 1), 2);
        dueTurn(1, 0, 1, 2, 0, 3);
        dueTurn(1, 1, 3, 2, 0, 1);
        dueCloses(1);
        lay(2, 6, 3, 1, 2, 3, 4, 5, 0, 0, 5, 4, 3, 2, 1);
        due(x.turn(3, 2, 1), 4);
        due(x.turn(3, 3, 1), 3);
        lay(4, 2, 2, 1, 0);
        due(x.turn(5, 4, 1), KIND);
        lay(4, 2, 4, 1, 0, 1, 0, 1, 0);
        due(x.turn(5, 4, 1), KIND);
    }

    private static void over() {
        says(0, "OVER one another: a and b, with one k: SHEETS are pairs, x of a and y of b being x times b's n and y; each "
            + "TURN leads both (n's product 12 at most).");
        lay(0, 3, 3, 1, 2, 0, 1, 0, 2);
        lay(1, 4, 3, 1, 2, 3, 0, 1, 2, 0, 3);
        due(x.over(2, 0, 1), 2);
        due(x.over(3, 1, 0), 2);
        for (int turn = 0; turn < 3; turn++) {
            for (int a = 0; a < 3; a++) {
                for (int b = 0; b < 4; b++) {
                    int ledA = x.leads(0, turn, a);
                    int ledB = x.leads(1, turn, b);
                    due(x.leads(2, turn, 4 * a + b), 4 * ledA + ledB);
                    due(x.leads(3, turn, 3 * b + a), 3 * ledB + ledA);
                }
            }
        }
        due(x.told(2, 0), 12);
        due(x.over(4, 1, 1), FULL);
        lay(4, 2, 1);
        due(x.over(4, 0, 4), BAD);
        lay(5, 6, 1);
        lay(6, 7, 1);
        due(x.over(7, 4, 5), 0);
        due(x.over(7, 4, 6), FULL);
        due(x.told(7, 0), 12);
    }

    private static void way() {
        says(0, "A WAY: ITEMS, 1 to k: that TURN, or -1 to -k: its inverse (less 1): LIFTED from a SHEET: where it ends.");
        lay(0, 12, 8, shifts(12, 1, 1, 2, 3, 5, 8, 13));
        int[] by = {1, 1, 2, 3, 5, 8, 1, 3};
        x.row(0, 0, 1);
        for (int turn = 0; turn < 8; turn++) {
            x.set(0, 0, turn + 1);
            due(x.lift(0, 0, 0, 1, 4), (4 + by[turn]) % 12);
            x.set(0, 0, -1 - turn);
            due(x.lift(0, 0, 0, 1, 4), (16 - by[turn]) % 12);
        }
        x.set(0, 0, 9);
        due(x.lift(0, 0, 0, 1, 4), BAD);
        x.set(0, 0, -9);
        due(x.lift(0, 0, 0, 1, 4), BAD);
        x.set(0, 0, 0);
        due(x.lift(0, 0, 0, 1, 4), BAD);
        due(x.lift(0, 0, 0, 0, 4), 4);
        lay(0, 4, 3, 1, 2, 3, 0, 1, 2, 0, 3);
        fill(x, 1, 1, 1, -2, 3, -1, 2);
        int[] ends = {0, 1, 0, 1, 0, 1};
        for (int m = 0; m < 6; m++) {
            due(x.lift(0, 1, 0, m, 0), ends[m]);
        }
        // A WAY once round all TURNS comes back.
        fill(x, 1, 1, 1, 2, 3);
        for (int sheet = 0; sheet < 4; sheet++) {
            due(x.lift(0, 1, 0, 3, sheet), sheet);
        }
    }
}
