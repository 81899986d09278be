/** The edges of part 3, promises 13 to 15: needs, gets, without. */
public final class HearingEdgesTest {
    private static final int UNKNOWN = PaperLayers.UNKNOWN, OUTSIDE = PaperLayers.OUTSIDE, STATE = PaperLayers.STATE,
        NONE = PaperLayers.NONE;
    private static final Check CHECK = new Check();
    private static final Refusals BARE = new Refusals(CHECK, "no wall", States::bare);
    private static final Refusals PAPERED = new Refusals(CHECK, "four layers", States::papered);
    private static final Refusals SIX = new Refusals(CHECK, "six layers", States::full);
    private static final Refusals LONE = new Refusals(CHECK, "one layer", States::lone);

    public static void main(String[] args) {
        needsRefused();
        needsLeastAndGreatest();
        needsByNone();
        getsRefused();
        getsLeastAndGreatest();
        getsByNone();
        withoutRefused();
        withoutTheEmptySet();
        withoutTheFewest();
        withoutTheLeastOfSeveral();
        withoutNone();
        CHECK.end();
    }

    private static void due(String call, long got, long want) {
        CHECK.due(call, got, want);
    }

    private static void needsRefused() {
        BARE.plain("needs: no layer", UNKNOWN, x -> x.needs(0));
        LONE.range("needs: layer 0 alone", UNKNOWN, 0, 0, (x, v) -> x.needs(v));
        PAPERED.range("needs: layers 0 .. 3", UNKNOWN, 0, 3, (x, v) -> x.needs(v));
        SIX.range("needs: layers 0 .. 5", UNKNOWN, 0, 5, (x, v) -> x.needs(v));
    }

    /** "the least WARM 0 .. 20 by which it is HEARD (DAMP as it is)". */
    private static void needsLeastAndGreatest() {
        PaperLayers x = Check.made("w90;s00;t00;s90;t90;s00");
        int[] dry = {0, 1, 9, 10, 10};
        for (int damp = 0; damp <= 9; damp++) {
            x.wet(damp);
            for (int k = 0; k < dry.length; k++) {
                due("needs " + k + " by damp " + damp, x.needs(k), dry[k] + damp);
            }
        }
        x.heat(0);
        due("19, the greatest there is, by no warm now", x.needs(4), 19);
        PAPERED.plain("needs changes nothing", 6, y -> y.needs(2));
    }

    /** "NONE: by none". */
    private static void needsByNone() {
        PaperLayers x = Check.made("w90;s00;r00;s00;r00");
        int[] want = {0, NONE, NONE, NONE};
        for (int k = 0; k < want.length; k++) {
            due("needs " + k, x.needs(k), want[k]);
        }
        due("red on top", Check.made("w90;r00;s00").needs(0), NONE);
        PAPERED.plain("none, and nothing changes", NONE, y -> y.needs(3));
    }

    private static void getsRefused() {
        PAPERED.range("gets: 0 .. 9", OUTSIDE, 0, 9, (x, v) -> x.gets(v));
        PAPERED.plain("gets: NONE is none of 0 .. 9", OUTSIDE, x -> x.gets(NONE));
        BARE.range("gets: 0 .. 9 without a wall", OUTSIDE, 0, 9, (x, v) -> x.gets(v));
        BARE.plain("gets: there is no WALL", STATE, x -> x.gets(0));
        BARE.plain("gets: there is no WALL", STATE, x -> x.gets(9));
    }

    private static void getsLeastAndGreatest() {
        due("0 by 0", Check.made("w90;s00;s09").gets(0), 0);
        due("9 by 0", Check.made("w90;s09;s00").gets(9), 0);
        due("by 19, the greatest there is", Check.made("w09;s01;t99;s99").gets(9), 19);
        due("the least of two spans of warm", Check.made("w00;s11;s22;s32;s41;s51").gets(1), 1);
        due("by the span between them", Check.made("w00;s11;s22;s32;s41;s51").gets(2), 3);
        due("one alone", States.lone().gets(4), 2);
        PaperLayers damp = States.lone();
        damp.wet(9);
        due("one alone in the damp", damp.gets(4), 11);
        PAPERED.plain("gets changes nothing", 3, x -> x.gets(4));
    }

    private static void getsByNone() {
        due("nobody advises it", Check.made("w90;s01;s02").gets(3), NONE);
        due("a red one advises it", Check.made("w90;s01;r03").gets(3), NONE);
        due("it lies under red", Check.made("w90;s01;r02;s03").gets(3), NONE);
        due("it is never the most", Check.made("w90;s01;s02").gets(2), NONE);
        PAPERED.plain("none, and nothing changes", NONE, x -> x.gets(7));
    }

    private static void withoutRefused() {
        PAPERED.range("without: 0 .. 9", OUTSIDE, 0, 9, (x, v) -> x.without(v));
        PAPERED.plain("without: NONE is none of 0 .. 9", OUTSIDE, x -> x.without(NONE));
        BARE.range("without: 0 .. 9 without a wall", OUTSIDE, 0, 9, (x, v) -> x.without(v));
        BARE.plain("without: there is no WALL", STATE, x -> x.without(0));
        BARE.plain("without: there is no WALL", STATE, x -> x.without(9));
    }

    private static void withoutTheEmptySet() {
        due("0 as it is", Check.made("w90;s00;s01").without(0), 0);
        due("9 as it is", Check.made("w90;s09;s01").without(9), 0);
        due("one alone", States.lone().without(4), 0);
        PAPERED.plain("without changes nothing", 0, x -> x.without(4));
    }

    /** "the fewest LAYERS that are to be taken out (all others lie as they do)". */
    private static void withoutTheFewest() {
        PaperLayers x = Check.made("w90;s00;s01;s02;s03;s04;s05");
        for (int v = 0; v < 6; v++) {
            due("all above " + v, x.without(v), (1 << v) - 1);
        }
        PaperLayers red = Check.made("w90;r01;r02;r03;r04;r05;s09");
        due("five red ones", red.without(9), 31);
        due("one of a greater number than two together", Check.made("w50;s01;s01;s02;s92;s02;s02").without(2), 8);
        due("a red one in place of two above it", Check.made("w20;s02;s02;s01;r01;s01;s01").without(1), 8);
        due("the topmost of six", Check.made("w90;s01;s02;s01;s02;s01;s02").without(2), 1);
        due("one that just holds", Check.made("w20;s32;s01").without(1), 1);
        due("one that just lifts", Check.made("w30;s32;s02;s01;s01").without(1), 1);
        PAPERED.plain("two, and nothing changes", 3, y -> y.without(1));
    }

    /** "as a set: of several the least". */
    private static void withoutTheLeastOfSeveral() {
        due("of {0}, {1}", Check.made("w90;s01;s01;s02;s02").without(2), 1);
        due("of {0, 1} .. {2, 3}", Check.made("w90;s01;s01;s01;s01;s02;s02").without(2), 7);
        due("of {1}, {2}: 0 does not do", Check.made("w90;s02;s01;s01;s02").without(2), 0);
        due("of {1}, {2}", Check.made("w90;s02;s01;s01").without(2), 2);
        due("of two twos", Check.made("w90;s03;s02;s02;s02;s03").without(3), 2);
    }

    /** "NONE: there are none". */
    private static void withoutNone() {
        due("nobody advises it", Check.made("w90;s01;s02").without(3), NONE);
        due("only a red one advises it", Check.made("w90;s01;r03").without(3), NONE);
        due("it just holds", Check.made("w20;s01;s33").without(3), NONE);
        due("damper than warm", Check.made("w01;s03;s03").without(3), NONE);
        LONE.plain("not of one alone", NONE, x -> x.without(3));
        PAPERED.plain("none, and nothing changes", NONE, x -> x.without(7));
    }
}
