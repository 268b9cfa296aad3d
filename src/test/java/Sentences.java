import java.io.IOException;
import java.nio.file.Files;
import java.nio.file.Path;
import java.util.Arrays;

/** What the tests by sentence share: each begins with words of the document, on a new object. */
abstract class Sentences {
    static final int NONE = -1000000, BAD = -1000001, FULL = -1000003;
    static final int NULL = -1000011, PLACE = -1000012, KIND = -1000013, SIZE = -1000014, STORE = -1000015;
    static final int LEAST = Integer.MIN_VALUE, MOST = Integer.MAX_VALUE;
    /** What status() tells of a furnished object. */
    static final int FOUND_AHEAD = 5;

    /**
     * What the places of a furnished object have, n, k and the TURNS: 0 COVER, 1 SIMPLE, 2 THREE, 3 MAP, 4 ONE, 5 not
     * WHOLE, 6 with a RING beyond 300, 7 of seven SHEETS; 8 and 9 are empty.
     */
    static final int[][] LAID = {
        joined(new int[] {12, 8}, shifts(12, 1, 2, 3, 4, 5, 6, 7)),
        {3, 4, 1, 0, 2, 0, 2, 1, 1, 0, 2},
        {3, 3, 1, 2, 0, 1, 0, 2},
        {4, 3, 1, 0, 3, 2, 2, 3, 0, 1},
        {6, 3, 0, 5, 4, 3, 2, 1, 5, 0, 1, 2, 3, 4},
        {4, 2, 1, 0, 3, 2},
        {5, 4, 4, 2, 3, 1, 0, 2, 4, 1, 3, 0, 3, 1, 2, 0, 4},
        joined(new int[] {7, 3}, shifts(7, 1, 2))};
    /** What its ROWS have, LANE and ITEMS; 4 to 7 are missing. */
    static final int[][] FILLED = {{2, 1, 0, 2, 3, 8, 5}, {0, 1, 2, 3, 4}, {0, 5, 6, 7}, {1}};

    interface Call {
        long on(SphereSheets y);
    }

    interface NumberCall {
        long on(SphereSheets y, int number);
    }

    static SphereSheets x;
    private static Document document;
    private static int promise, check, sentences, wrong;
    private static String words;

    /** Where the document is not at hand, the tests are run all the same, but what they quote is not looked up. */
    static void readDocument() throws IOException {
        Path file = Path.of("../shared/DOC.md");
        if (Files.isReadable(file)) {
            document = new Document(file);
        } else {
            System.out.println("no " + file + ": quotes are not looked up");
        }
    }

    /** Tells how it went: whether all held, and each word of the document was quoted by a test. */
    static boolean allHold() {
        if (document != null) {
            for (String left : document.unquoted()) {
                wrong++;
                System.out.println("no test quotes " + left);
            }
        }
        System.out.println(sentences + " sentences, " + (wrong == 0 ? "all hold" : wrong + " faults"));
        return wrong == 0;
    }

    static void says(int number, String quotedWords) {
        promise = number;
        words = quotedWords;
        check = 0;
        sentences++;
        x = new SphereSheets();
        if (document != null && !document.quote(number, quotedWords)) {
            fault("this is not in the document");
        }
    }

    private static void fault(String what) {
        wrong++;
        System.out.println((promise == 0 ? "terms" : "promise " + promise) + ", \"" + words + "\", check " + check + ": "
            + what);
    }

    static void due(long got, long want) {
        check++;
        if (got != want) {
            fault(got + ", due is " + want);
        }
    }

    /** A call that is refused, or finds something: what it answers, and that it changes nothing but status(). */
    static void refused(Call call, int want) {
        SphereSheets y = furnished();
        due(call.on(y), want);
        due(y.status(), want <= NULL ? -1000010 - want : FOUND_AHEAD);
        dueUntouched(y);
    }

    static void refusedFor(NumberCall call, int want, int... numbers) {
        for (int number : numbers) {
            refused(y -> call.on(y, number), want);
        }
    }

    /** A call that is not refused, with a ROW or a place: status() tells 0 behind it. */
    static void answered(Call call, int want) {
        SphereSheets y = furnished();
        due(call.on(y), want);
        due(y.status(), 0);
    }

    /** A call that only tells something, and leaves status() too. */
    static void toldOnly(Call call, long want) {
        SphereSheets y = furnished();
        due(call.on(y), want);
        due(y.status(), FOUND_AHEAD);
        dueUntouched(y);
    }

    /** An object with ROWS and covers in it, which has traced seven numbers and found ROWS of two LANES. */
    static SphereSheets furnished() {
        SphereSheets y = new SphereSheets();
        for (int place = 0; place < LAID.length; place++) {
            lay(y, place, LAID[place][0], LAID[place][1], behind(LAID[place], 2));
        }
        for (int row = 0; row < FILLED.length; row++) {
            fill(y, row, FILLED[row][0], behind(FILLED[row], 1));
        }
        y.ask(4, 0);
        y.copy(0, 0, 1, 0, 0);
        return y;
    }

    private static void dueUntouched(SphereSheets y) {
        String got = look(y);
        String want = look(furnished());
        check++;
        if (!got.equals(want)) {
            fault("something changed:\n" + want + got);
        }
    }

    /**
     * All that can be seen from outside but status(); ITEMS from 1 to 8 are seen by being lifted in place 0. With what
     * furnished() calls it stays below the 512 calls of an object.
     */
    private static String look(SphereSheets y) {
        StringBuilder seen = new StringBuilder("trace");
        for (int i = 0; i < 17; i++) {
            seen.append(' ').append(y.trace(i));
        }
        seen.append("\ncounts");
        for (int what = 0; what < 7; what++) {
            seen.append(' ').append(y.count(what));
        }
        for (int row = 0; row < 8; row++) {
            seen.append("\nROW ").append(row).append(':');
            lookAtRow(y, row, seen);
        }
        for (int place = 0; place < 10; place++) {
            seen.append("\nplace ").append(place).append(", KIND ").append(y.kind(place)).append(':');
            lookAtPlace(y, place, seen);
        }
        return seen.append('\n').toString();
    }

    private static void lookAtRow(SphereSheets y, int row, StringBuilder seen) {
        int ends = y.lift(0, row, 0, 1, 0);
        for (int i = 1; ends > NULL; i++) {
            seen.append(' ').append(ends);
            ends = y.lift(0, row, i, 1, 0);
        }
        seen.append(", lowest bits ").append(y.set(row, 0, 40000)).append(", ITEMS ").append(y.drop(row));
    }

    private static void lookAtPlace(SphereSheets y, int place, StringBuilder seen) {
        int n = y.told(place, 0);
        int k = y.told(place, 1);
        for (int turn = 0; turn < k; turn++) {
            for (int sheet = 0; sheet < n; sheet++) {
                seen.append(sheet == 0 ? ", " : " ").append(y.leads(place, turn, sheet));
            }
        }
    }

    static void fill(SphereSheets y, int row, int lane, int... items) {
        y.row(row, lane, items.length);
        for (int i = 0; i < items.length; i++) {
            y.set(row, i, items[i]);
        }
    }

    /** Lays a cover by way of ROW 7, which is missing afterwards. */
    static int lay(SphereSheets y, int place, int n, int k, int... items) {
        fill(y, 7, 2, items);
        int told = y.cover(place, 7, 0, n, k);
        y.drop(7);
        return told;
    }

    static int lay(int place, int n, int k, int... items) {
        return lay(x, place, n, k, items);
    }

    /** TURNS that lead each SHEET so and so far on, round the n of them. */
    static int[] shifts(int n, int... by) {
        int[] items = new int[n * by.length];
        for (int i = 0; i < items.length; i++) {
            items[i] = (i % n + by[i / n]) % n;
        }
        return items;
    }

    /** A TURN that leaves all SHEETS but exchanges pairs of them. */
    static int[] exchanging(int n, int... pairs) {
        int[] items = shifts(n, 0);
        for (int i = 0; i + 1 < pairs.length; i += 2) {
            items[pairs[i]] = pairs[i + 1];
            items[pairs[i + 1]] = pairs[i];
        }
        return items;
    }

    static int[] behind(int[] row, int from) {
        return Arrays.copyOfRange(row, from, row.length);
    }

    static int[] joined(int[]... turns) {
        int many = 0;
        for (int[] turn : turns) {
            many += turn.length;
        }
        int[] all = new int[many];
        int at = 0;
        for (int[] turn : turns) {
            System.arraycopy(turn, 0, all, at, turn.length);
            at += turn.length;
        }
        return all;
    }

    static void dueTurn(int place, int turn, int... leads) {
        for (int sheet = 0; sheet < leads.length; sheet++) {
            due(x.leads(place, turn, sheet), leads[sheet]);
        }
        due(x.leads(place, turn, leads.length), BAD);
    }

    /** All TURNS, one behind the other, lead each SHEET to itself. */
    static void dueCloses(int place) {
        int n = x.told(place, 0);
        int k = x.told(place, 1);
        for (int sheet = 0; sheet < n; sheet++) {
            int at = sheet;
            for (int turn = 0; turn < k; turn++) {
                at = x.leads(place, turn, at);
            }
            due(at, sheet);
        }
    }
}
