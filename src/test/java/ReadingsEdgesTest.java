/** The edges of part 4, promises 16 to 22: reading, back, orders, holds, advices, kinds, odds. */
public final class ReadingsEdgesTest {
    private static final int UNKNOWN = PaperLayers.UNKNOWN, OUTSIDE = PaperLayers.OUTSIDE, STATE = PaperLayers.STATE,
        FULL = PaperLayers.FULL, NONE = PaperLayers.NONE;
    private static final long LOST = PaperLayers.LOST;
    private static final Check CHECK = new Check();
    private static final Refusals BARE = new Refusals(CHECK, "no wall", States::bare);
    private static final Refusals PAPERED = new Refusals(CHECK, "four layers, three readings", States::papered);
    private static final Refusals SIX = new Refusals(CHECK, "six layers, eight readings", States::full);
    private static final Refusals LONE = new Refusals(CHECK, "one layer, no readings", States::lone);

    public static void main(String[] args) {
        readingRefused();
        readingsUpToEight();
        readingOfEachEdge();
        back();
        ordersRefused();
        ordersOfOneToSix();
        ordersThatAreNone();
        firstOfTheOrders();
        setsRefused();
        setsFullAndEmpty();
        setsOfOneNumber();
        oneIsChangedAlone();
        oddsRefused();
        oddsLeastAndGreatest();
        CHECK.end();
    }

    private static void due(String call, long got, long want) {
        CHECK.due(call, got, want);
    }

    /** "OUTSIDE: warm (0 .. 20), damp (0 .. 9), v (0 .. 9, NONE); STATE: there is no WALL; FULL". */
    private static void readingRefused() {
        for (Refusals state : new Refusals[] {BARE, PAPERED, SIX}) {
            state.range("reading: warm 0 .. 20", OUTSIDE, 0, 20, (x, v) -> x.reading(v, 0, 0));
            state.range("reading: damp 0 .. 9", OUTSIDE, 0, 9, (x, v) -> x.reading(0, v, 0));
            state.range("reading: v 0 .. 9", OUTSIDE, 0, 9, (x, v) -> x.reading(0, 0, v));
            state.range("reading: v NONE", OUTSIDE, NONE, NONE, (x, v) -> x.reading(0, 0, v));
        }
        BARE.plain("reading: there is no WALL", STATE, x -> x.reading(0, 0, 0));
        BARE.plain("reading: there is no WALL", STATE, x -> x.reading(20, 9, NONE));
        SIX.plain("reading: eight there are", FULL, x -> x.reading(0, 0, 0));
        SIX.plain("reading: eight there are", FULL, x -> x.reading(20, 9, NONE));
    }

    /** "READINGS, 8 at most, numbered by how many there are". */
    private static void readingsUpToEight() {
        PaperLayers x = States.lone();
        for (int number = 0; number < 8; number++) {
            due("its number", x.reading(2, 0, 4), number);
            due("how many", x.many(4), number + 1);
        }
        due("a ninth", x.reading(2, 0, 4), FULL);
        due("eight still", x.many(4), 8);
        due("one back", x.back(1), 7);
        due("the eighth again", x.reading(1, 0, 4), 7);
        due("it counts", x.holds(0), 3);
        due("all back", x.back(8), 0);
        due("the first again", x.reading(2, 0, 4), 0);
        PaperLayers eight = States.lone();
        for (int number = 0; number < 7; number++) {
            eight.reading(9, 0, 4);
        }
        due("by seven", eight.advices(0), 16);
        eight.reading(9, 0, 5);
        due("by the eighth, too", eight.advices(0), 0);
    }

    private static void readingOfEachEdge() {
        PaperLayers x = Check.made("w00;s09;t90");
        due("the least warm, the greatest damp, NONE", x.reading(0, 9, NONE), 0);
        due("it is so", x.orders(-1), 2);
        due("the greatest warm, the least damp, 9", x.reading(20, 0, 9), 1);
        due("it is so if 0 lies on top", x.orders(-1), 1);
        due("0 is not so then", x.reading(20, 9, 0), 2);
        due("no order", x.orders(-1), 0);
        due("taken back", x.back(2), 1);
        due("0 is so if 1 lies on top", x.reading(20, 9, 0), 1);
        due("one order", x.orders(-1), 1);
        due("1 on top", x.orders(0), 1);
        due("19 and 9 are just so", x.reading(19, 9, 0), 2);
        due("one order still", x.orders(-1), 1);
        due("18 and 9 are not", x.reading(18, 9, 0), 3);
        due("no order by that", x.orders(-1), 0);
    }

    /** "The last k READINGS (0 .. as many as there are) are taken back: how many are left. OUTSIDE." */
    private static void back() {
        BARE.range("back: 0 .. 0", OUTSIDE, 0, 0, (x, v) -> x.back(v));
        LONE.range("back: 0 .. 0", OUTSIDE, 0, 0, (x, v) -> x.back(v));
        PAPERED.range("back: 0 .. 3", OUTSIDE, 0, 3, (x, v) -> x.back(v));
        SIX.range("back: 0 .. 8", OUTSIDE, 0, 8, (x, v) -> x.back(v));
        BARE.plain("back: none of none", 0, x -> x.back(0));
        PAPERED.plain("back: none of three", 3, x -> x.back(0));
        for (int k = 0; k <= 8; k++) {
            PaperLayers x = States.full();
            due("back " + k, x.back(k), 8 - k);
            due("left", x.many(4), 8 - k);
        }
        PaperLayers x = Check.made("w90;s01;s02;s03");
        x.reading(9, 0, 1);
        x.reading(9, 0, 2);
        due("both are not so", x.orders(-1), 0);
        due("the last is taken back", x.back(1), 1);
        due("the first is left", x.orders(0), 0);
        due("the first is so", x.orders(-1), 2);
        due("one more than there are", x.back(2), OUTSIDE);
    }

    /** "how many (k -1), the LAYER in place k (0 .. 5)". */
    private static void ordersRefused() {
        for (Refusals state : new Refusals[] {BARE, PAPERED, SIX, LONE}) {
            state.range("orders: -1 .. 5", OUTSIDE, -1, 5, (x, v) -> x.orders(v));
        }
        BARE.plain("orders: there is no WALL", STATE, x -> x.orders(-1));
        BARE.plain("orders: there is no WALL", STATE, x -> x.orders(0));
        BARE.plain("orders: there is no WALL", STATE, x -> x.orders(5));
    }

    private static void ordersOfOneToSix() {
        PaperLayers x = States.lone();
        int all = 1;
        for (int count = 1; count <= 6; count++) {
            all *= count;
            due("orders of " + count, x.orders(-1), all);
            for (int place = 0; place < 6; place++) {
                due("place " + place + " of " + count, x.orders(place), place < count ? place : NONE);
            }
            x.putUp(count % 3, count, count);
        }
        PAPERED.plain("orders changes nothing", 6, y -> y.orders(-1));
        PAPERED.plain("nor the first of them", 0, y -> y.orders(0));
        PAPERED.plain("there is no such place", NONE, y -> y.orders(4));
    }

    /** "NONE: there is no such place, no such order". */
    private static void ordersThatAreNone() {
        PaperLayers x = Check.made("w90;s01;s02;s03");
        x.reading(20, 0, 4);
        due("no order", x.orders(-1), 0);
        for (int place = 0; place < 6; place++) {
            due("place " + place + " of no order", x.orders(place), NONE);
        }
        PaperLayers lone = States.lone();
        lone.reading(1, 0, 4);
        due("not one of one", lone.orders(-1), 0);
        due("nor its place", lone.orders(0), NONE);
    }

    /** "of the first of them, as rows". */
    private static void firstOfTheOrders() {
        String[] texts = {"w90;s01;s02;s03;s04;s05;s06", "w90;s01;s02;s03", "w90;s11;s22;s33;s44"};
        int[][] readings = {{20, 0, 6, 20, 0, 6}, {20, 0, 2, 20, 0, 2}, {4, 0, 3, 2, 0, NONE}};
        int[] counts = {120, 2, 6};
        int[][] firsts = {{5, 0, 1, 2, 3, 4}, {1, 0, 2, NONE, NONE, NONE}, {2, 0, 1, 3, NONE, NONE}};
        for (int t = 0; t < texts.length; t++) {
            PaperLayers x = Check.made(texts[t]);
            int[] r = readings[t];
            x.reading(r[0], r[1], r[2]);
            x.reading(r[3], r[4], r[5]);
            due("orders of " + texts[t], x.orders(-1), counts[t]);
            for (int place = 0; place < 6; place++) {
                due("place " + place + " of " + texts[t], x.orders(place), firsts[t][place]);
            }
        }
        lastOfAllOrders();
    }

    /** Readings that leave but few rows, the very last of all among them. */
    private static void lastOfAllOrders() {
        PaperLayers two = Check.made("w00;s11;s02");
        two.reading(0, 0, 2);
        due("one of two", two.orders(-1), 1);
        due("the last row: 1 ..", two.orders(0), 1);
        due(".. and 0", two.orders(1), 0);
        PaperLayers x = Check.made("w90;s42;s22;r60;s41;s21;s02");
        for (int warm = 0; warm < 8; warm++) {
            x.reading(warm, 0, warm < 4 ? 2 : 1);
        }
        due("four of 720", x.orders(-1), 4);
        int[] want = {5, 3, 4, 2, 0, 1};
        for (int place = 0; place < 6; place++) {
            due("place " + place + " of the first of the four", x.orders(place), want[place]);
        }
    }

    private static void setsRefused() {
        BARE.plain("holds: no layer", UNKNOWN, x -> x.holds(0));
        BARE.plain("advices: no layer", UNKNOWN, x -> x.advices(0));
        BARE.plain("kinds: no layer", UNKNOWN, x -> x.kinds(0));
        Refusals[] states = {LONE, PAPERED, SIX};
        int[] last = {0, 3, 5};
        for (int s = 0; s < states.length; s++) {
            states[s].range("holds: layers", UNKNOWN, 0, last[s], (x, v) -> x.holds(v));
            states[s].range("advices: layers", UNKNOWN, 0, last[s], (x, v) -> x.advices(v));
            states[s].range("kinds: layers", UNKNOWN, 0, last[s], (x, v) -> x.kinds(v));
        }
        PAPERED.plain("holds changes nothing", 7, x -> x.holds(0));
        PAPERED.plain("advices changes nothing", 16, x -> x.advices(0));
        PAPERED.plain("kinds changes nothing", 1, x -> x.kinds(0));
    }

    private static void setsFullAndEmpty() {
        for (int k = 0; k < 6; k++) {
            PaperLayers x = States.full();
            x.back(8);
            due("all holds of " + k, x.holds(k), 1023);
            due("all advices of " + k, x.advices(k), 1023);
            due("all kinds of " + k, x.kinds(k), 7);
            x.reading(0, 9, 0);
            due("no hold of " + k, x.holds(k), 0);
            due("no advice of " + k, x.advices(k), 0);
            due("no kind of " + k, x.kinds(k), 0);
        }
    }

    /** "HOLDS of a LAYER: 0 .. 9; ADVICES of a LAYER: 0 .. 9; KINDS of a LAYER: 0 .. 2". */
    private static void setsOfOneNumber() {
        for (int v = 0; v <= 9; v++) {
            PaperLayers x = Check.made("w00;s51;s52");
            x.reading(v, 0, 1);
            due("holds up to " + v, x.holds(0), (2 << v) - 1);
            if (v > 0) {
                x.reading(v - 1, 0, NONE);
                due("hold " + v + " alone", x.holds(0), 1 << v);
            }
            PaperLayers y = Check.made("w90;s51;s52");
            y.reading(5, 0, v);
            due("advice " + v + " alone", y.advices(0), 1 << v);
        }
        PaperLayers x = Check.made("w00;s51;s52");
        x.reading(5, 0, 1);
        due("kind 0 alone", x.kinds(0), 1);
        x.back(1);
        x.reading(5, 0, NONE);
        x.reading(6, 0, 1);
        due("kind 1 alone", x.kinds(0), 2);
        x.back(2);
        x.reading(20, 0, NONE);
        due("kind 2 alone", x.kinds(0), 4);
        due("holds of a trellis up to 9", trellis(10), 1023);
        due("holds of a trellis up to 8", trellis(9), 511);
        due("no hold of a trellis", trellis(0), 0);
    }

    private static int trellis(int warm) {
        PaperLayers x = Check.made("w00;t51;s52");
        x.reading(warm, 0, 1);
        return x.holds(0);
    }

    /** "in place of what it is alone": the others are as they are. */
    private static void oneIsChangedAlone() {
        PaperLayers x = Check.made("w00;s31;s21");
        x.reading(2, 0, 1);
        due("the second has no hold: the first is too firm", x.holds(1), 0);
        due("the first has", x.holds(0), 7);
        x.reading(3, 0, 2);
        due("advices of the first", x.advices(0), 0);
        x.back(2);
        x.reading(20, 0, NONE);
        due("only a red first one", x.kinds(0), 4);
        due("not a red second one", x.kinds(1), 0);
        due("hold is as it was", x.ofLayer(0, 1), 3);
    }

    private static void oddsRefused() {
        BARE.plain("odds: no layer", LOST, x -> x.odds(0, 0));
        Refusals[] states = {LONE, PAPERED, SIX};
        int[] last = {0, 3, 5};
        for (int s = 0; s < states.length; s++) {
            states[s].range("odds: layers, the upper", LOST, 0, last[s], (x, v) -> x.odds(v, 0));
            states[s].range("odds: layers, the lower", LOST, 0, last[s], (x, v) -> x.odds(v, 1));
            states[s].range("odds: which 0 .. 1", LOST, 0, 1, (x, v) -> x.odds(0, v));
        }
        PAPERED.plain("odds changes nothing", 6, x -> x.odds(0, 0));
    }

    /** "if WARM is any of 0 .. 20, all alike: the share by which it is HEARD", in least terms. */
    private static void oddsLeastAndGreatest() {
        int[] uppers = {1, 20, 19, 6, 17, 16, 5, 2, 13, 4, 11, 10, 3, 8, 1, 2, 5, 4, 1, 2};
        int[] lowers = {1, 21, 21, 7, 21, 21, 7, 3, 21, 7, 21, 21, 7, 21, 3, 7, 21, 21, 7, 21};
        for (int less = 0; less < uppers.length; less++) {
            int hold = Math.min(less, 9);
            int trellis = less - hold == 0 ? 0 : 1;
            int damp = less - hold - trellis;
            PaperLayers x = Check.made("w00;" + (trellis == 1 ? "t" : "s") + hold + "0;s00");
            x.wet(damp);
            for (int k = 0; k < 2; k++) {
                due("upper of " + k + " by " + less, x.odds(k, 0), uppers[less]);
                due("lower of " + k + " by " + less, x.odds(k, 1), lowers[less]);
            }
        }
        PaperLayers red = Check.made("w90;r00;s00");
        for (int k = 0; k < 2; k++) {
            due("none: the upper", red.odds(k, 0), 0);
            due("none: the lower is above 0, in least terms", red.odds(k, 1), 1);
        }
        PaperLayers x = States.papered();
        x.heat(0);
        due("how warm it is matters not", x.odds(0, 0), 6);
        due("lower", x.odds(0, 1), 7);
    }
}
