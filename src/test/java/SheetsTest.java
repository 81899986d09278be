/** Promises 23 to 27 and 32: sheet, lose, put, cell, copy, fault. */
public final class SheetsTest {
    private static final Check CHECK = new Check();

    public static void main(String[] args) {
        sheet();
        lose();
        put();
        cell();
        copy();
        copyRefused();
        fault();
        CHECK.end();
    }

    private static void due(String call, long got, long want) {
        CHECK.due(call, got, want);
    }

    private static void sheet() {
        PaperLayers x = new PaperLayers();
        for (int k = 0; k < 4; k++) {
            due("sheet " + k, x.sheet(k, k % 3, 60), 1);
            due("its last cell", x.cell(k, 59, k % 3), 0);
        }
        due("below", x.sheet(-1, 0, 1), PaperLayers.UNKNOWN);
        due("above, ahead of the lane", x.sheet(4, 3, 1), PaperLayers.UNKNOWN);
        due("lane below, ahead of SIZE", x.sheet(0, -1, -1), PaperLayers.OUTSIDE);
        due("lane above", x.sheet(0, 3, 1), PaperLayers.OUTSIDE);
        due("n above", x.sheet(0, 0, 61), PaperLayers.OUTSIDE);
        due("n far above", x.sheet(0, 0, Integer.MAX_VALUE), PaperLayers.OUTSIDE);
        due("no fault by a refusal", x.fault(), 0);
        due("SIZE", x.sheet(0, 0, -1), -14);
        due("fault SIZE", x.fault(), 4);
        due("SIZE far below", x.sheet(0, 0, Integer.MIN_VALUE), -14);
        due("the row is as it was", x.cell(0, 59, 0), 0);
        x.put(0, 3, 7);
        due("a new row", x.sheet(0, 0, 5), 1);
        due("is 0", x.cell(0, 3, 0), 0);
        due("and shorter", x.cell(0, 5, 0), PaperLayers.LOST);
        for (int i = 0; i < 60; i++) {
            x.put(1, i, i + 1);
        }
        x.sheet(1, 1, 60);
        for (int i = 0; i < 60; i++) {
            due("cell " + i + " of a new row", x.cell(1, i, 1), 0);
        }
        due("of another lane", x.sheet(0, 2, 0), 1);
        due("without cells", x.put(0, 0, 1), -13);
        due("a row it is all the same", x.lose(0), 1);
    }

    private static void lose() {
        PaperLayers x = new PaperLayers();
        due("it had nothing", x.lose(2), 0);
        x.sheet(2, 1, 3);
        x.put(2, 1, 9);
        due("it had a row", x.lose(2), 1);
        due("nothing now", x.lose(2), 0);
        due("no cell", x.put(2, 0, 1), -11);
        due("below", x.lose(-1), PaperLayers.UNKNOWN);
        due("above", x.lose(4), PaperLayers.UNKNOWN);
        due("lose names no fault: the latest stays", x.fault(), 1);
        x.sheet(2, 1, 3);
        due("0 again", x.cell(2, 1, 1), 0);
    }

    private static void put() {
        PaperLayers x = new PaperLayers();
        due("no sheet below", x.put(-1, 0, 0), PaperLayers.UNKNOWN);
        due("no sheet above", x.put(4, 0, 0), PaperLayers.UNKNOWN);
        due("nothing, ahead of INDEX", x.put(0, -1, 0), -11);
        int[] numbers = {0, 127, 128, -128, -129, 255, 256, 32767, 32768, -32768, -32769, 65535, 65536,
            Integer.MAX_VALUE, Integer.MIN_VALUE};
        for (int n : numbers) {
            for (int lane = 0; lane < 3; lane++) {
                x.sheet(0, lane, 2);
                due("put " + n, x.put(0, 1, n), 1);
                int cut = lane == 0 ? (byte) n : lane == 1 ? (short) n : n;
                due("cell of " + n + " in lane " + lane, x.cell(0, 1, lane), cut);
                due("the cell beside it", x.cell(0, 0, lane), 0);
            }
        }
        due("i below", x.put(0, -1, 0), -13);
        due("i beyond", x.put(0, 2, 0), -13);
        due("fault INDEX", x.fault(), 3);
        due("i far beyond", x.put(0, Integer.MIN_VALUE, 0), -13);
    }

    private static void cell() {
        PaperLayers x = new PaperLayers();
        Check.layNumbers(x, 1, 1, 5, -6);
        due("cell", x.cell(1, 1, 1), -6);
        due("no sheet below", x.cell(-1, 0, 1), PaperLayers.LOST);
        due("no sheet above", x.cell(4, 0, 1), PaperLayers.LOST);
        due("fault of a refusal", x.fault(), 0);
        due("lane below", x.cell(1, 0, -1), PaperLayers.LOST);
        due("fault of an outside lane", x.fault(), 0);
        due("lane above, of nothing", x.cell(0, 0, 3), PaperLayers.LOST);
        due("fault of that", x.fault(), 0);
        due("another lane, ahead of INDEX", x.cell(1, 9, 2), PaperLayers.LOST);
        due("fault CAST", x.fault(), 2);
        due("nothing is no CAST", x.cell(0, 9, 2), PaperLayers.LOST);
        due("fault NULL", x.fault(), 1);
        due("i beyond", x.cell(1, 2, 1), PaperLayers.LOST);
        due("fault INDEX", x.fault(), 3);
        due("i below", x.cell(1, -1, 1), PaperLayers.LOST);
        due("fault INDEX again", x.fault(), 3);
        due("cell 0", x.cell(1, 0, 1), 5);
        due("no fault", x.fault(), 0);
    }

    private static void cells(PaperLayers x, String what, int k, int lane, int... want) {
        for (int i = 0; i < want.length; i++) {
            due(what + ", cell " + i, x.cell(k, i, lane), want[i]);
        }
    }

    private static void copy() {
        PaperLayers x = new PaperLayers();
        Check.layNumbers(x, 0, 2, 1, 2, 3, 4, 5);
        Check.layNumbers(x, 1, 2, 10, 20, 30);
        due("to another", x.copy(0, 1, 1, 0, 2), 2);
        cells(x, "another", 1, 2, 2, 3, 30);
        cells(x, "the first", 0, 2, 1, 2, 3, 4, 5);
        due("up in the same", x.copy(0, 0, 0, 1, 4), 4);
        cells(x, "up", 0, 2, 1, 1, 2, 3, 4);
        due("down in the same", x.copy(0, 2, 0, 0, 3), 3);
        cells(x, "down", 0, 2, 2, 3, 4, 3, 4);
        due("none", x.copy(0, 5, 1, 3, 0), 0);
        due("all", x.copy(1, 0, 0, 2, 3), 3);
        cells(x, "all", 0, 2, 2, 3, 2, 3, 30);
    }

    private static void copyRefused() {
        PaperLayers x = new PaperLayers();
        due("no sheet", x.copy(-1, 0, 0, 0, 0), PaperLayers.UNKNOWN);
        due("no sheet, ahead of NULL", x.copy(0, 0, 4, 0, 0), PaperLayers.UNKNOWN);
        Check.layNumbers(x, 0, 2, 1, 2, 3);
        Check.layNumbers(x, 1, 1, 1, 2, 3);
        Check.layNumbers(x, 3, 2, 7, 8);
        due("the first has nothing", x.copy(2, -1, 0, 0, 0), -11);
        due("fault NULL", x.fault(), 1);
        due("the other has nothing", x.copy(0, -1, 2, 0, 0), -11);
        due("unlike lanes, ahead of INDEX", x.copy(0, -1, 1, 0, 0), -12);
        due("fault CAST", x.fault(), 2);
        int[][] wrong = {{-1, 0, 1}, {0, -1, 1}, {0, 0, -1}, {0, 0, 3}, {1, 0, 3}, {3, 0, 1}, {0, 2, 1}, {4, 0, 0},
            {0, 3, 0}, {-1, 0, 0}, {0, -1, 0}, {1, 1, Integer.MAX_VALUE}, {Integer.MAX_VALUE, 0, 1}, {0, 0, Integer.MIN_VALUE}};
        for (int[] w : wrong) {
            due("copy from " + w[0] + " to " + w[1] + " of " + w[2], x.copy(0, w[0], 3, w[1], w[2]), -13);
            due("fault INDEX", x.fault(), 3);
        }
        cells(x, "as it was", 3, 2, 7, 8);
        due("the other is longer", x.copy(3, 0, 0, 1, 2), 2);
        due("no fault", x.fault(), 0);
        due("the other's index", x.copy(3, 0, 0, 2, 2), -13);
    }

    private static void fault() {
        PaperLayers x = Check.made("w90;s01;s02");
        x.put(0, 0, 0);
        due("fault", x.fault(), 1);
        due("fault again", x.fault(), 1);
        x.heat(99);
        x.lose(0);
        x.tell(0);
        x.stroke(9);
        x.many(0);
        due("calls that name none leave it", x.fault(), 1);
        x.sheet(0, 0, 1);
        due("sheet came to none", x.fault(), 0);
        x.put(0, 1, 0);
        due("INDEX by put", x.fault(), 3);
        x.put(4, 0, 0);
        due("put refused", x.fault(), 0);
        x.put(0, 1, 0);
        x.put(0, 0, 0);
        due("put came to none", x.fault(), 0);
        x.put(0, 1, 0);
        x.copy(0, 0, 0, 0, 1);
        due("copy came to none", x.fault(), 0);
        x.put(0, 1, 0);
        x.copy(0, 0, 9, 0, 1);
        due("copy refused", x.fault(), 0);
        x.put(0, 1, 0);
        x.sheet(0, 9, 1);
        due("sheet refused", x.fault(), 0);
        x.put(0, 1, 0);
        x.days(0, 0, 0, 0, 0);
        due("days came to none", x.fault(), 0);
        x.put(0, 1, 0);
        x.as(0, 0);
        due("as came to none", x.fault(), 0);
        x.put(0, 1, 0);
        x.as(0, 9);
        due("as refused", x.fault(), 0);
        x.put(0, 1, 0);
        x.as(9, 0);
        due("as of no layer", x.fault(), 0);
    }
}
