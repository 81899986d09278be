/** The edges of days, promise 12. */
public final class DaysEdgesTest {
    private static final int UNKNOWN = PaperLayers.UNKNOWN, OUTSIDE = PaperLayers.OUTSIDE, STATE = PaperLayers.STATE,
        NONE = PaperLayers.NONE;
    private static final int NULL = 1, CAST = 2, INDEX = 3;
    private static final Check CHECK = new Check();
    private static final Refusals BARE = new Refusals(CHECK, "no wall", States::bare);
    private static final Refusals PAPERED = new Refusals(CHECK, "four layers", States::papered);
    private static final Refusals FORTY = new Refusals(CHECK, "forty cells", () -> States.withDays(new int[40]));

    public static void main(String[] args) {
        numbersOfTheCall();
        faults();
        cellsAreTwoForEachPair();
        pairsLeastAndGreatest();
        pairsOutside();
        noPairs();
        twentyPairs();
        firstWrongAtEachPlace();
        actsThatCannotBe();
        actsThatJustCan();
        actsGoOneBehindAnother();
        behindHowMany();
        nothingIsChanged();
        CHECK.end();
    }

    private static void due(String call, long got, long want) {
        CHECK.due(call, got, want);
    }

    private static Refusals with(int... pairs) {
        return new Refusals(CHECK, "days " + java.util.Arrays.toString(pairs), () -> States.withDays(pairs));
    }

    /** What is answered for each what, by a wall that is made anew each time. */
    private static void answers(String text, int[] pairs, int... want) {
        for (int what = 0; what < 5; what++) {
            String call = text + " " + java.util.Arrays.toString(pairs) + " what " + what;
            PaperLayers x = Check.made(text);
            due(call, Check.days(x, what, pairs), want[what]);
            due(call + ": fault() behind it", x.fault(), 0);
        }
    }

    private static void wrong(String text, int first, int... pairs) {
        answers(text, pairs, -100 - first, first, -100 - first, -100 - first, -100 - first);
    }

    private static void numbersOfTheCall() {
        FORTY.rangeNaming("sheet 0 .. 3", UNKNOWN, 0, 3, (x, v) -> x.days(v, 2, 0, 1, 0));
        FORTY.rangeNaming("lane 0 .. 2", OUTSIDE, 0, 2, (x, v) -> x.days(2, v, 0, 1, 0));
        FORTY.rangeNaming("n 0 .. 20", OUTSIDE, 0, 20, (x, v) -> x.days(2, 2, 0, v, 0));
        FORTY.rangeNaming("what 0 .. 4", OUTSIDE, 0, 4, (x, v) -> x.days(2, 2, 0, 1, v));
        BARE.rangeNaming("n 0 .. 20 without a wall", OUTSIDE, 0, 20, (x, v) -> x.days(2, 2, 0, v, 0));
        for (int given = 0; given < 5; given++) {
            int what = given;
            BARE.naming("there is no WALL, what " + what, STATE, x -> x.days(1, 1, 0, 2, what));
        }
    }

    private static void faults() {
        for (int lane = 0; lane < 3; lane++) {
            int taken = lane;
            PAPERED.fault("nothing as lane " + lane, NULL, x -> x.days(3, taken, 0, 0, 0));
            for (int k = 0; k < 3; k++) {
                int sheet = k;
                if (k != lane) {
                    PAPERED.fault("sheet " + k + " as lane " + lane, CAST, x -> x.days(sheet, taken, 0, 0, 0));
                }
            }
        }
        FORTY.fault("twenty pairs from 1 on", INDEX, x -> x.days(2, 2, 1, 20, 0));
        FORTY.fault("a pair from the last cell on", INDEX, x -> x.days(2, 2, 39, 1, 0));
        FORTY.fault("a pair from behind the last on", INDEX, x -> x.days(2, 2, 40, 1, 0));
        FORTY.fault("i below 0", INDEX, x -> x.days(2, 2, -1, 1, 0));
        FORTY.fault("i far below 0", INDEX, x -> x.days(2, 2, Integer.MIN_VALUE, 20, 0));
        FORTY.fault("i that wraps", INDEX, x -> x.days(2, 2, Integer.MAX_VALUE, 20, 0));
        FORTY.fault("i that wraps to the last", INDEX, x -> x.days(2, 2, Integer.MAX_VALUE - 1, 1, 0));
    }

    /** "cells of a SHEET from i on (2 n)". */
    private static void cellsAreTwoForEachPair() {
        for (int lane = 0; lane < 3; lane++) {
            PaperLayers x = Check.made("w00;s01;s02");
            Check.layNumbers(x, 1, lane, 9, 3, 7, 0, 7, 9);
            due("two pairs from 1 on, lane " + lane, x.days(1, lane, 1, 2, 3), 7);
            due("the second alone", x.days(1, lane, 3, 1, 3), 3);
            due("a pair up to the last cell", x.days(1, lane, 4, 1, 0), OUTSIDE);
            due("a pair beyond it", x.days(1, lane, 5, 1, 0), -13);
            due("three pairs from 0 on", x.days(1, lane, 0, 3, 0), OUTSIDE);
        }
        PaperLayers cut = Check.made("w00;s01;s02");
        Check.layNumbers(cut, 1, 0, 256, 256 + 20);
        due("cells that were cut are as told", cut.days(1, 0, 0, 1, 2), 1);
        Check.layNumbers(cut, 1, 1, 65536 + 3, 65536 + 9);
        due("shorts, too", cut.days(1, 1, 0, 1, 0), 3);
        Check.layNumbers(cut, 1, 2, 65536 + 3, 9);
        due("ints are not cut", cut.days(1, 2, 0, 1, 0), OUTSIDE);
    }

    /** "0 and v .. (0 .. 20); 1 and v .. (0 .. 9); 2 and 0 ..; 3 and v .. (0 .. 9)". */
    private static void pairsLeastAndGreatest() {
        String text = "w50;s51;s62";
        answers(text, new int[] {0, 0}, 2, NONE, NONE, 0, 0);
        answers(text, new int[] {0, 20}, 2, NONE, 1, 3, 1);
        answers(text, new int[] {1, 0}, 2, NONE, 1, 1, 1);
        answers(text, new int[] {1, 9}, 2, NONE, NONE, 0, 0);
        answers(text, new int[] {2, 0}, 1, NONE, NONE, 0, 0);
        answers(text, new int[] {3, 0}, 3, NONE, 0, 3, 1);
        answers(text, new int[] {3, 9}, 3, NONE, NONE, 0, 0);
    }

    private static void pairsOutside() {
        int[][] pairs = {{0, -1}, {0, 21}, {0, Integer.MIN_VALUE}, {0, Integer.MAX_VALUE}, {1, -1}, {1, 10},
            {1, Integer.MIN_VALUE}, {1, Integer.MAX_VALUE}, {2, -1}, {2, 1}, {2, Integer.MIN_VALUE}, {2, Integer.MAX_VALUE},
            {3, -1}, {3, 10}, {3, Integer.MIN_VALUE}, {3, Integer.MAX_VALUE}, {-1, 0}, {4, 0}, {Integer.MIN_VALUE, 0},
            {Integer.MAX_VALUE, 0}};
        for (int[] p : pairs) {
            for (int given = 0; given < 5; given++) {
                int what = given;
                with(p).naming("alone, what " + what, OUTSIDE, x -> x.days(2, 2, 0, 1, what));
            }
            with(0, 20, p[0], p[1]).naming("the last", OUTSIDE, x -> x.days(2, 2, 0, 2, 1));
            with(0, 20, p[0], p[1]).naming("left out", NONE, x -> x.days(2, 2, 0, 1, 1));
            with(p[0], p[1], 0, 20).naming("the first", OUTSIDE, x -> x.days(2, 2, 0, 2, 0));
            with(1, 9, 2, 0, p[0], p[1]).naming("behind a FIRST WRONG", OUTSIDE, x -> x.days(2, 2, 0, 3, 1));
        }
    }

    private static void noPairs() {
        answers("w90;s01;s02;s02", new int[0], 3, NONE, 2, 7, 0);
        answers("w01;s01;s02", new int[0], 2, NONE, NONE, 0, 0);
    }

    private static void twentyPairs() {
        int[] twenty = new int[40];
        answers("w00;s01;s12", twenty, 2, NONE, 1, 1, 20);
        answers("w01;s01;s12", twenty, 2, NONE, NONE, 0, 0);
        twenty[38] = 2;
        answers("w00;s11;s02", twenty, -119, 19, -119, -119, -119);
        answers("w00;s01;s02", twenty, 1, NONE, 2, 1, 20);
    }

    private static void firstWrongAtEachPlace() {
        for (int place = 0; place < 20; place++) {
            int[] pairs = new int[40];
            pairs[2 * place] = 2;
            wrong("w00;s11;s02", place, pairs);
            // another behind it is not the first
            pairs[38] = 2;
            wrong("w00;s11;s02", place, pairs);
        }
    }

    /** "FIRST WRONG: the first act that can't be." */
    private static void actsThatCannotBe() {
        wrong("w90;s00;s00;s00;s00;s00;s00", 0, 3, 0);
        wrong("w90;s00;s00;s00;s00;s00", 1, 3, 0, 3, 0);
        wrong("w90;s00;s00", 1, 2, 0, 2, 0);
        wrong("w90;s00;s00;s00;s00;s00;s00", 5, 2, 0, 2, 0, 2, 0, 2, 0, 2, 0, 2, 0);
        wrong("w20;s30;s00", 0, 2, 0);
        wrong("w20;t20;s00", 0, 2, 0);
        wrong("w50;r30;s00", 0, 2, 0);
        wrong("w30;s30;s00", 1, 1, 1, 2, 0);
        wrong("w30;s30;s00", 1, 0, 2, 2, 0);
        wrong("w30;s30;s00", 1, 3, 4, 2, 0);
        new Refusals(CHECK, "one layer", () -> {
            PaperLayers x = States.lone();
            Check.layNumbers(x, 2, 2, 2, 0);
            return x;
        }).naming("the only one", -100, x -> x.days(2, 2, 0, 1, 0));
    }

    private static void actsThatJustCan() {
        answers("w90;s00;s00;s00;s00;s00", new int[] {3, 9}, 6, NONE, 0, 63, 1);
        answers("w90;s00;s00;s00;s00;s00;s00", new int[] {2, 0, 3, 1}, 6, NONE, 0, 63, 2);
        answers("w90;s00;s03", new int[] {2, 0, 3, 1, 2, 0}, 1, NONE, 3, 1, 3);
        answers("w30;s30;s04", new int[] {2, 0}, 1, NONE, 4, 1, 1);
        answers("w60;r30;s04", new int[] {2, 0}, 1, NONE, 4, 1, 1);
        answers("w20;s30;s04", new int[] {0, 3, 2, 0}, 1, NONE, 4, 1, 2);
        answers("w41;s40;s04", new int[] {1, 0, 2, 0}, 1, NONE, 4, 1, 2);
    }

    private static void actsGoOneBehindAnother() {
        answers("w00;s91;s92", new int[] {0, 20, 0, 8}, 2, NONE, NONE, 0, 1);
        answers("w00;s91;s92", new int[] {0, 8, 0, 20}, 2, NONE, 1, 3, 1);
        answers("w90;s01;s02", new int[] {1, 9, 1, 0}, 2, NONE, 1, 3, 2);
        answers("w90;s01;s02", new int[] {3, 3, 3, 4, 2, 0}, 3, NONE, 3, 7, 3);
    }

    /** "behind how many of these acts somebody is HEARD". */
    private static void behindHowMany() {
        int[] pairs = {0, 1, 0, 0, 0, 1, 1, 1, 0, 2};
        answers("w00;s11;s12", pairs, 2, NONE, 1, 3, 3);
        answers("w90;s01;r02;s03", new int[] {2, 0, 2, 0, 0, 20}, 1, NONE, 3, 1, 2);
    }

    /** "from how all is now (nothing is changed)". */
    private static void nothingIsChanged() {
        int[] pairs = {0, 20, 1, 9, 2, 0, 3, 9, 3, 0, 2, 0, 0, 0};
        int[] want = {4, NONE, NONE, 0, 6};
        for (int given = 0; given < 5; given++) {
            int what = given;
            with(pairs).naming("what " + what, want[what], x -> x.days(2, 2, 0, 7, what));
            with(2, 0, 0, 0, 2, 0).naming("with a FIRST WRONG, what " + what, what == 1 ? 2 : -102,
                x -> x.days(2, 2, 0, 3, what));
        }
    }
}
