import java.util.Arrays;

/** The edges of part 5, promises 23 to 27: sheet, lose, put, cell, copy. */
public final class SheetsEdgesTest {
    private static final int UNKNOWN = PaperLayers.UNKNOWN, OUTSIDE = PaperLayers.OUTSIDE;
    private static final int NULL = 1, CAST = 2, INDEX = 3, SIZE = 4;
    private static final int[] LENGTHS = {States.TEXT.length(), 4, 5};
    private static final Check CHECK = new Check();
    private static final Refusals FRESH = new Refusals(CHECK, "a new object", PaperLayers::new);
    private static final Refusals PAPERED = new Refusals(CHECK, "three sheets", States::papered);

    public static void main(String[] args) {
        sheetRefused();
        rowsOfEachLength();
        aNewRowIsZero();
        lose();
        putRefused();
        putCutsToTheLane();
        cellRefused();
        cellOfEachLane();
        copyRefused();
        copyLeastAndGreatest();
        copyAsTheyWere();
        CHECK.end();
    }

    private static void due(String call, long got, long want) {
        CHECK.due(call, got, want);
    }

    /** "UNKNOWN; OUTSIDE: lane, n above 60; SIZE." */
    private static void sheetRefused() {
        for (Refusals state : new Refusals[] {FRESH, PAPERED}) {
            state.rangeNaming("sheet: 0 .. 3", UNKNOWN, 0, 3, (x, v) -> x.sheet(v, 0, 0));
            state.rangeNaming("sheet: lane 0 .. 2", OUTSIDE, 0, 2, (x, v) -> x.sheet(0, v, 60));
            for (int above : new int[] {61, 62, Integer.MAX_VALUE}) {
                state.naming("sheet: n " + above, OUTSIDE, x -> x.sheet(0, 0, above));
            }
            for (int below : new int[] {-1, -60, Integer.MIN_VALUE}) {
                state.fault("sheet: n " + below, SIZE, x -> x.sheet(0, 0, below));
            }
        }
    }

    /** "a row of 0 .. 60 numbers". */
    private static void rowsOfEachLength() {
        for (int k = 0; k < 4; k++) {
            for (int n : new int[] {0, 1, 59, 60}) {
                PaperLayers x = new PaperLayers();
                int lane = (k + n) % 3;
                due("a row of " + n, x.sheet(k, lane, n), 1);
                due("no fault", x.fault(), 0);
                due("its last cell", x.put(k, n - 1, 7), n == 0 ? -13 : 1);
                due("behind its last cell", x.put(k, n, 7), -13);
                due("it is no other's: sheet " + (k + 1) % 4, x.put((k + 1) % 4, 0, 7), -11);
                due("a row is something", x.lose(k), 1);
            }
        }
    }

    /** "(0 at first)"; "A SHEET gets a new row". */
    private static void aNewRowIsZero() {
        for (int lane = 0; lane < 3; lane++) {
            PaperLayers x = new PaperLayers();
            x.sheet(0, lane, 60);
            for (int i = 0; i < 60; i++) {
                due("cell " + i + " at first", x.cell(0, i, lane), 0);
                x.put(0, i, i + 1);
            }
            due("a row once more", x.sheet(0, lane, 60), 1);
            for (int i = 0; i < 60; i++) {
                due("cell " + i + " of the new row", x.cell(0, i, lane), 0);
            }
            x.put(0, 59, 9);
            x.sheet(0, lane, 3);
            due("a shorter row", x.put(0, 3, 1), -13);
            x.sheet(0, lane, 60);
            due("a longer one has nothing of the old", x.cell(0, 59, lane), 0);
            int other = (lane + 1) % 3;
            x.sheet(0, other, 1);
            due("a row of another lane", x.cell(0, 0, other), 0);
            due("is no more of the first", x.cell(0, 0, lane), PaperLayers.LOST);
            due("CAST", x.fault(), CAST);
        }
    }

    /** "A SHEET has nothing: 1; 0: it had nothing. UNKNOWN." */
    private static void lose() {
        FRESH.range("lose: 0 .. 3", UNKNOWN, 0, 3, (x, v) -> x.lose(v));
        PAPERED.range("lose: 0 .. 3", UNKNOWN, 0, 3, (x, v) -> x.lose(v));
        FRESH.plain("lose: it had nothing", 0, x -> x.lose(3));
        PAPERED.plain("lose: it had nothing", 0, x -> x.lose(3));
        PaperLayers x = States.papered();
        for (int k = 0; k < 3; k++) {
            due("lose " + k, x.lose(k), 1);
            for (int lane = 0; lane < 3; lane++) {
                due("nothing has no lane", x.cell(k, 0, lane), PaperLayers.LOST);
                due("fault NULL", x.fault(), NULL);
                due("nor for a text", x.wall(k, lane, 0, 0), -11);
                due("nor for days", x.days(k, lane, 0, 0, 0), -11);
            }
            due("nor for a copy", x.copy(k, 0, (k + 1) % 3, 0, 0), -11);
            due("lose " + k + " again", x.lose(k), 0);
        }
        due("the wall stays", x.many(0), 4);
        due("a row of no cells is something", x.sheet(0, 0, 0), 1);
        due("which is lost", x.lose(0), 1);
        x.sheet(0, 0, 19);
        due("the row that was lost does not come back", x.cell(0, 0, 0), 0);
    }

    /** "Cell i of a SHEET becomes v: 1. UNKNOWN; NULL; INDEX." */
    private static void putRefused() {
        PAPERED.rangeNaming("put: sheets 0 .. 3", UNKNOWN, 0, 3, (x, v) -> x.put(v, 0, 1));
        for (int given = 0; given < 4; given++) {
            int k = given;
            FRESH.fault("put: sheet " + k + " has nothing", NULL, x -> x.put(k, 0, 1));
        }
        for (int given = 0; given < 3; given++) {
            int k = given;
            for (int i : new int[] {Integer.MIN_VALUE, -1, LENGTHS[k], 60, Integer.MAX_VALUE}) {
                PAPERED.fault("put: cell " + i + " of sheet " + k, INDEX, x -> x.put(k, i, 1));
            }
            PaperLayers x = States.papered();
            due("the first cell", x.put(k, 0, 1), 1);
            due("the last cell", x.put(k, LENGTHS[k] - 1, 2), 1);
            due("the first is", x.cell(k, 0, k), 1);
            due("the last is", x.cell(k, LENGTHS[k] - 1, k), 2);
        }
    }

    /** "what comes to a cell of it is cut to its LANE". */
    private static void putCutsToTheLane() {
        int[] put = {127, 128, 255, 256, -128, -129, 32767, 32768, 65535, 65536, -32768, -32769, Integer.MAX_VALUE,
            Integer.MIN_VALUE, -1, 0x12345678};
        long[] bytes = {127, -128, -1, 0, -128, 127, -1, 0, -1, 0, 0, -1, -1, 0, -1, 0x78};
        long[] shorts = {127, 128, 255, 256, -128, -129, 32767, -32768, -1, 0, -32768, 32767, -1, 0, -1, 0x5678};
        PaperLayers x = new PaperLayers();
        for (int lane = 0; lane < 3; lane++) {
            x.sheet(lane, lane, 3);
        }
        for (int n = 0; n < put.length; n++) {
            for (int lane = 0; lane < 3; lane++) {
                due("put " + put[n], x.put(lane, 1, put[n]), 1);
            }
            due(put[n] + " as a byte", x.cell(0, 1, 0), bytes[n]);
            due(put[n] + " as a short", x.cell(1, 1, 1), shorts[n]);
            due(put[n] + " as an int", x.cell(2, 1, 2), put[n]);
        }
        for (int lane = 0; lane < 3; lane++) {
            due("the cell ahead is as it was", x.cell(lane, 0, lane), 0);
            due("the cell behind is as it was", x.cell(lane, 2, lane), 0);
        }
    }

    /** "LOST: UNKNOWN, OUTSIDE: lane; FAULTS CAST (nothing is no CAST), NULL, INDEX." */
    private static void cellRefused() {
        for (int far : new int[] {Integer.MIN_VALUE, -1, 4, Integer.MAX_VALUE}) {
            PAPERED.lost("cell: sheet " + far, 0, x -> x.cell(far, 0, 0));
        }
        for (int far : new int[] {Integer.MIN_VALUE, -1, 3, Integer.MAX_VALUE}) {
            PAPERED.lost("cell: lane " + far, 0, x -> x.cell(0, 0, far));
            PAPERED.lost("cell: lane " + far + " of nothing", 0, x -> x.cell(3, 0, far));
        }
        for (int given = 0; given < 3; given++) {
            int k = given;
            PAPERED.lost("cell: nothing as lane " + k, NULL, x -> x.cell(3, 0, k));
            for (int lane = 0; lane < 3; lane++) {
                int taken = lane;
                if (lane != k) {
                    PAPERED.lost("cell: sheet " + k + " as lane " + lane, CAST, x -> x.cell(k, 0, taken));
                }
            }
            for (int i : new int[] {Integer.MIN_VALUE, -1, LENGTHS[k], 60, Integer.MAX_VALUE}) {
                PAPERED.lost("cell: cell " + i + " of sheet " + k, INDEX, x -> x.cell(k, i, k));
            }
        }
    }

    private static void cellOfEachLane() {
        PAPERED.naming("cell: the first of bytes", 'w', x -> x.cell(0, 0, 0));
        PAPERED.naming("cell: the last of bytes", '7', x -> x.cell(0, LENGTHS[0] - 1, 0));
        PAPERED.naming("cell: the first of shorts", 3, x -> x.cell(1, 0, 1));
        PAPERED.naming("cell: the last of shorts", 20, x -> x.cell(1, 3, 1));
        PAPERED.naming("cell: the first of ints", 0, x -> x.cell(2, 0, 2));
        PAPERED.naming("cell: one below 0", -1, x -> x.cell(2, 3, 2));
        PAPERED.naming("cell: the last of ints", 5, x -> x.cell(2, 4, 2));
        PaperLayers x = new PaperLayers();
        x.sheet(0, 2, 0);
        due("a row of no cells has no first", x.cell(0, 0, 2), PaperLayers.LOST);
        due("INDEX", x.fault(), INDEX);
    }

    /** "UNKNOWN; FAULTS NULL (the first, the other), CAST (unlike LANES), INDEX: i, j, n below 0 or beyond." */
    private static void copyRefused() {
        PAPERED.rangeNaming("copy: the first 0 .. 3", UNKNOWN, 0, 3, (x, v) -> x.copy(v, 0, 0, 0, 0));
        PAPERED.rangeNaming("copy: the other 0 .. 3", UNKNOWN, 0, 3, (x, v) -> x.copy(0, 0, v, 0, 0));
        for (int given = 0; given < 3; given++) {
            int k = given;
            PAPERED.fault("copy: the first has nothing, of no lane, the other lane " + k, NULL, x -> x.copy(3, 0, k, 0, 0));
            PAPERED.fault("copy: the other has nothing, the first lane " + k, NULL, x -> x.copy(k, 0, 3, 0, 0));
        }
        PAPERED.fault("copy: both have nothing", NULL, x -> x.copy(3, 0, 3, 0, 0));
        for (int a = 0; a < 3; a++) {
            for (int b = 0; b < 3; b++) {
                int k = a;
                int other = b;
                if (a != b) {
                    PAPERED.fault("copy: unlike lanes " + a + " " + b, CAST, x -> x.copy(k, 0, other, 0, 0));
                }
            }
        }
        Refusals unlike = new Refusals(CHECK, "5 ints and 3 ints", SheetsEdgesTest::twoRows);
        int[][] index = {{-1, 0, 1}, {0, -1, 1}, {0, 0, -1}, {5, 0, 1}, {0, 3, 1}, {0, 0, 4}, {3, 0, 3}, {0, 1, 3},
            {6, 0, 0}, {0, 4, 0}, {-1, 0, 0}, {0, -1, 0}, {Integer.MIN_VALUE, 0, 1}, {0, Integer.MIN_VALUE, 1},
            {0, 0, Integer.MIN_VALUE}, {Integer.MAX_VALUE, 0, 1}, {0, Integer.MAX_VALUE, 1}, {0, 0, Integer.MAX_VALUE},
            {1, 0, Integer.MAX_VALUE}, {0, 1, Integer.MAX_VALUE}, {5, 3, Integer.MAX_VALUE}, {Integer.MAX_VALUE, 0, 0},
            {-1, 0, -1}, {5, 3, -1}};
        for (int[] c : index) {
            unlike.fault("copy " + Arrays.toString(c), INDEX, x -> x.copy(0, c[0], 1, c[1], c[2]));
        }
        unlike.fault("copy back, the first is shorter", INDEX, x -> x.copy(1, 0, 0, 0, 4));
        unlike.fault("copy back, beyond the first", INDEX, x -> x.copy(1, 4, 0, 0, 0));
        unlike.fault("copy in the same, beyond", INDEX, x -> x.copy(0, 0, 0, 1, 5));
    }

    private static PaperLayers twoRows() {
        PaperLayers x = new PaperLayers();
        Check.layNumbers(x, 0, 2, 1, 2, 3, 4, 5);
        Check.layNumbers(x, 1, 2, 10, 20, 30);
        return x;
    }

    private static void copied(String what, PaperLayers x, int k, int lane, int... want) {
        for (int i = 0; i < want.length; i++) {
            due(what + ": cell " + i, x.cell(k, i, lane), want[i]);
        }
    }

    private static void copyLeastAndGreatest() {
        Refusals none = new Refusals(CHECK, "5 ints and 3 ints", SheetsEdgesTest::twoRows);
        none.naming("none from the ends", 0, x -> x.copy(0, 5, 1, 3, 0));
        none.naming("none from the beginnings", 0, x -> x.copy(0, 0, 1, 0, 0));
        none.naming("all onto themselves", 5, x -> x.copy(0, 0, 0, 0, 5));
        PaperLayers x = twoRows();
        due("as many as go there", x.copy(0, 2, 1, 0, 3), 3);
        copied("all of the other", x, 1, 2, 3, 4, 5);
        copied("the first is as it was", x, 0, 2, 1, 2, 3, 4, 5);
        PaperLayers one = twoRows();
        due("the last to the last", one.copy(0, 4, 1, 2, 1), 1);
        copied("the last", one, 1, 2, 10, 20, 5);
        for (int lane = 0; lane < 3; lane++) {
            PaperLayers y = new PaperLayers();
            y.sheet(0, lane, 60);
            y.sheet(3, lane, 60);
            for (int i = 0; i < 60; i++) {
                y.put(0, i, i - 30);
            }
            due("sixty", y.copy(0, 0, 3, 0, 60), 60);
            due("no fault", y.fault(), 0);
            due("the first of sixty", y.cell(3, 0, lane), -30);
            due("the last of sixty", y.cell(3, 59, lane), 29);
        }
        PaperLayers empty = new PaperLayers();
        empty.sheet(0, 1, 0);
        due("none of none", empty.copy(0, 0, 0, 0, 0), 0);
        due("one of none", empty.copy(0, 0, 0, 0, 1), -13);
    }

    /** "(perhaps the same) from j on, as they were". */
    private static void copyAsTheyWere() {
        PaperLayers up = twoRows();
        due("up in the same", up.copy(0, 0, 0, 1, 4), 4);
        copied("up", up, 0, 2, 1, 1, 2, 3, 4);
        PaperLayers down = twoRows();
        due("down in the same", down.copy(0, 1, 0, 0, 4), 4);
        copied("down", down, 0, 2, 2, 3, 4, 5, 5);
        PaperLayers two = twoRows();
        due("up by two", two.copy(0, 0, 0, 2, 3), 3);
        copied("up by two", two, 0, 2, 1, 2, 1, 2, 3);
        PaperLayers twice = twoRows();
        twice.copy(0, 0, 1, 0, 3);
        twice.put(0, 0, 99);
        copied("a copy is its own", twice, 1, 2, 1, 2, 3);
    }
}
