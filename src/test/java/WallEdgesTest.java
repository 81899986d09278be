/** The edges of part 1, promises 1 to 6 and 33: a new object, wall, ofLayer, heat, wet, paste, many. */
public final class WallEdgesTest {
    private static final int UNKNOWN = PaperLayers.UNKNOWN, OUTSIDE = PaperLayers.OUTSIDE, STATE = PaperLayers.STATE;
    private static final int NULL = 1, CAST = 2, INDEX = 3, SIZE = 4;
    private static final String SIX = "w52;s34;t12;r01;s00;t98;r76";
    private static final Check CHECK = new Check();
    private static final Refusals BARE = new Refusals(CHECK, "no wall", States::bare);
    private static final Refusals PAPERED = new Refusals(CHECK, "four layers", States::papered);
    private static final Refusals SIX_LAYERS = new Refusals(CHECK, "six layers", States::full);
    private static final Refusals LONE = new Refusals(CHECK, "one layer", States::lone);

    public static void main(String[] args) {
        newObject();
        digitsOfATextLeastAndGreatest();
        twoToSixLayers();
        everyCodeAtEveryPlace();
        codesBeyondBytes();
        endsTooSoon();
        seventhLayer();
        placesAreTheTexts();
        notTakenChangesNothing();
        takenMakesAllAnew();
        wallRefused();
        gripLeastAndGreatest();
        ofLayer();
        liftedAtTheEdge();
        heat();
        wet();
        paste();
        many();
        CHECK.end();
    }

    private static void due(String call, long got, long want) {
        CHECK.due(call, got, want);
    }

    /** "No WALL (no LAYERS), SHEETS have nothing." */
    private static void newObject() {
        PaperLayers x = new PaperLayers();
        due("fault ahead of any", x.fault(), 0);
        due("trace at first", x.trace(), 0);
        for (int what = 0; what < 5; what++) {
            due("many " + what, x.many(what), 0);
        }
        for (int k = 0; k < 6; k++) {
            due("no layer " + k, x.ofLayer(k, 0), UNKNOWN);
        }
        due("no wall", x.heard(), STATE);
        due("no readings", x.back(1), OUTSIDE);
        for (int k = 0; k < 4; k++) {
            due("sheet " + k + " has nothing", x.put(k, 0, 0), -11);
            due("nothing to lose " + k, x.lose(k), 0);
        }
    }

    /** "a digit 0 .. 9 (WARM), a digit 0 .. 9 (DAMP) .. a digit 0 .. 9 (HOLD), a digit 0 .. 9 (ADVICE)". */
    private static void digitsOfATextLeastAndGreatest() {
        PaperLayers x = Check.made("w09;s09;s90");
        due("warm 0", x.many(1), 0);
        due("damp 9", x.many(2), 9);
        due("hold 0", x.ofLayer(0, 1), 0);
        due("advice 9", x.ofLayer(0, 2), 9);
        due("hold 9", x.ofLayer(1, 1), 9);
        due("advice 0", x.ofLayer(1, 2), 0);
        due("the other way", Check.wall(x, "w90;t90;r09"), 2);
        due("warm 9", x.many(1), 9);
        due("damp 0", x.many(2), 0);
        due("t is a trellis", x.ofLayer(0, 0), 1);
        due("r is red", x.ofLayer(1, 0), 2);
    }

    /** "then 2 to 6 LAYERS". */
    private static void twoToSixLayers() {
        for (int count = 0; count <= 6; count++) {
            int codes = 3 + 4 * count;
            PaperLayers x = new PaperLayers();
            due(count + " layers", Check.wall(x, SIX.substring(0, codes)), count < 2 ? -100 - codes : count);
            due("many of " + count, x.many(0), count < 2 ? 0 : count);
            due("the last of " + count, x.ofLayer(count - 1, 0), count < 2 ? UNKNOWN : "str".indexOf(SIX.charAt(codes - 3)));
            due("none behind the last of " + count, x.ofLayer(count, 0), UNKNOWN);
        }
    }

    private static String codesAt(int place) {
        if (place == 0) {
            return "w";
        }
        int inLayer = (place + 1) % 4;
        boolean isDigit = place < 3 || inLayer > 1;
        return isDigit ? "0123456789" : inLayer == 0 ? ";" : "str";
    }

    /** "the place (from 0 on) of the first code with which no TEXT goes on". */
    private static void everyCodeAtEveryPlace() {
        PaperLayers x = null;
        for (int place = 0; place < SIX.length(); place++) {
            for (int code = -128; code < 128; code++) {
                if (x == null || code % 64 == 0) {
                    x = new PaperLayers();
                    Check.lay(x, 0, 0, SIX);
                }
                x.put(0, place, code);
                boolean goesOn = codesAt(place).indexOf(code) >= 0;
                due("code " + code + " at " + place, x.wall(0, 0, 0, SIX.length()), goesOn ? 6 : -100 - place);
                x.put(0, place, SIX.charAt(place));
            }
        }
    }

    /** A code of shorts or ints is not a byte: nothing of it is cut off as it is read. */
    private static void codesBeyondBytes() {
        for (int lane = 1; lane <= 2; lane++) {
            for (int place = 0; place < 11; place++) {
                for (int more : new int[] {256, -256, 65536, Integer.MIN_VALUE}) {
                    PaperLayers x = new PaperLayers();
                    Check.lay(x, 0, lane, SIX.substring(0, 11));
                    x.put(0, place, SIX.charAt(place) + more);
                    boolean isCut = lane == 1 && (short) more == 0;
                    due("lane " + lane + ", " + more + " more at " + place, x.wall(0, lane, 0, 11), isCut ? 2 : -100 - place);
                }
            }
        }
    }

    /** "how many codes there are, if it just ends too soon". */
    private static void endsTooSoon() {
        PaperLayers x = new PaperLayers();
        Check.lay(x, 0, 0, SIX);
        for (int n = 0; n < SIX.length(); n++) {
            boolean isText = n == 11 || n == 15 || n == 19 || n == 23;
            due("the first " + n + " codes", x.wall(0, 0, 0, n), isText ? (n - 3) / 4 : -100 - n);
        }
        x.sheet(0, 0, 0);
        due("a row of no codes", x.wall(0, 0, 0, 0), -100);
        due("fails not", x.fault(), 0);
        due("a wrong code that is the last", Check.wall(x, "w52;s34;t1;"), -110);
        due("a wrong code ahead of an end that is too soon", Check.wall(x, "w52;s34t"), -107);
    }

    /** "(the ; of a seventh LAYER)". */
    private static void seventhLayer() {
        PaperLayers x = States.papered();
        due("the ; alone", Check.wall(x, SIX + ";"), -127);
        due("a whole layer", Check.wall(x, SIX + ";s00"), -127);
        due("another code there", Check.wall(x, SIX + "x"), -127);
        due("0 codes up to the sheet's end", longText(60), -127);
        due("layers as they were", x.many(0), 4);
    }

    private static int longText(int n) {
        PaperLayers x = new PaperLayers();
        x.sheet(0, 0, n);
        for (int i = 0; i < SIX.length(); i++) {
            x.put(0, i, SIX.charAt(i));
        }
        return x.wall(0, 0, 0, n);
    }

    /** Places are numbered from the text's first code on, not from the sheet's. */
    private static void placesAreTheTexts() {
        PaperLayers x = new PaperLayers();
        Check.lay(x, 1, 2, "w99;" + SIX + ";w");
        due("from 4 on", x.wall(1, 2, 4, 27), 6);
        due("from 4 on, a seventh", x.wall(1, 2, 4, 28), -127);
        due("from 5 on", x.wall(1, 2, 5, 26), -100);
        due("from 4 on, too few", x.wall(1, 2, 4, 10), -110);
        due("from the last on", x.wall(1, 2, 32, 1), -101);
        due("from behind the last on", x.wall(1, 2, 33, 0), -100);
        Check.lay(x, 1, 2, "w99;w52;s34;q12");
        due("a wrong code, from 4 on", x.wall(1, 2, 4, 11), -108);
        due("a row of 60 that ends with a text", atTheEnd(), 6);
    }

    private static int atTheEnd() {
        PaperLayers x = new PaperLayers();
        x.sheet(3, 1, 60);
        for (int i = 0; i < SIX.length(); i++) {
            x.put(3, 33 + i, SIX.charAt(i));
        }
        return x.wall(3, 1, 33, 27);
    }

    private static void notTakenChangesNothing() {
        for (int n = 0; n <= 10; n++) {
            int codes = n;
            PAPERED.naming("a text of " + n + " codes", -100 - n, x -> x.wall(0, 0, 0, codes));
        }
        PAPERED.naming("a text with a wrong first code", -100, x -> x.wall(0, 0, 4, 15));
        BARE.naming("a text that ends too soon", -118, x -> x.wall(0, 0, 0, 18));
    }

    /** "A TEXT that is taken makes all anew: no READINGS." */
    private static void takenMakesAllAnew() {
        PaperLayers x = States.full();
        x.heat(20);
        x.wet(3);
        x.tell(0);
        int trace = x.trace();
        due("a text of two behind one of six", Check.wall(x, "w12;t34;s56"), 2);
        int[] want = {2, 1, 2, 0, 0};
        for (int what = 0; what < 5; what++) {
            due("many " + what, x.many(what), want[what]);
        }
        due("no third layer", x.ofLayer(2, 0), UNKNOWN);
        due("readings begin with 0", x.reading(0, 0, 0), 0);
        due("which is alone", x.holds(0), 0);
        due("taken back", x.back(1), 0);
        due("all holds", x.holds(0), 1023);
        due("the trace is none of the wall's", x.trace(), trace);
        due("nor are the sheets", x.cell(2, 2, 2), 70000);
        due("the same text once more", x.wall(3, 0, 0, 11), 2);
    }

    private static void wallRefused() {
        BARE.rangeNaming("wall: sheet 0 .. 3", UNKNOWN, 0, 3, (x, v) -> x.wall(v, 0, 0, 19));
        PAPERED.rangeNaming("wall: sheet 0 .. 3", UNKNOWN, 0, 3, (x, v) -> x.wall(v, 0, 0, 19));
        PAPERED.rangeNaming("wall: lane 0 .. 2", OUTSIDE, 0, 2, (x, v) -> x.wall(0, v, 0, 19));
        PAPERED.rangeNaming("wall: lane 0 .. 2 of nothing", OUTSIDE, 0, 2, (x, v) -> x.wall(3, v, 0, 0));
        for (int lane = 0; lane < 3; lane++) {
            int taken = lane;
            PAPERED.fault("wall: nothing as lane " + lane, NULL, x -> x.wall(3, taken, 0, 0));
            for (int k = 0; k < 3; k++) {
                int sheet = k;
                if (k != lane) {
                    PAPERED.fault("wall: sheet " + k + " as lane " + lane, CAST, x -> x.wall(sheet, taken, 0, 0));
                }
            }
        }
        PAPERED.fault("wall: n below 0", SIZE, x -> x.wall(0, 0, 0, -1));
        PAPERED.fault("wall: n far below 0", SIZE, x -> x.wall(0, 0, 0, Integer.MIN_VALUE));
        PAPERED.fault("wall: one cell more than there are", INDEX, x -> x.wall(0, 0, 0, 20));
        PAPERED.fault("wall: one cell more, from 4 on", INDEX, x -> x.wall(0, 0, 4, 16));
        PAPERED.fault("wall: one cell from behind the last on", INDEX, x -> x.wall(0, 0, 19, 1));
        PAPERED.fault("wall: i below 0", INDEX, x -> x.wall(0, 0, -1, 19));
        PAPERED.fault("wall: i far below 0", INDEX, x -> x.wall(0, 0, Integer.MIN_VALUE, 19));
        PAPERED.fault("wall: i and n that wrap to a place", INDEX, x -> x.wall(0, 0, 10, Integer.MAX_VALUE));
        PAPERED.fault("wall: i that wraps with n", INDEX, x -> x.wall(0, 0, Integer.MAX_VALUE, 19));
        PAPERED.fault("wall: both the greatest", INDEX, x -> x.wall(0, 0, Integer.MAX_VALUE, Integer.MAX_VALUE));
        PAPERED.fault("wall: i far below and n far above", INDEX, x -> x.wall(0, 0, -19, Integer.MAX_VALUE));
    }

    /** "GRIP: of a STRIPE HOLD; of a TRELLIS 1 more; of a RED one twice what a STRIPE's is." */
    private static void gripLeastAndGreatest() {
        PaperLayers x = Check.made("w00;s00;s90;t00;t90;r00;r90");
        int[] grips = {0, 9, 1, 10, 0, 18};
        for (int k = 0; k < 6; k++) {
            due("grip of layer " + k, x.ofLayer(k, 3), grips[k]);
        }
    }

    private static void ofLayer() {
        for (int given = 0; given < 6; given++) {
            int what = given;
            BARE.plain("ofLayer: no layer 0, " + what, UNKNOWN, x -> x.ofLayer(0, what));
            LONE.range("ofLayer: layer 0 alone, " + what, UNKNOWN, 0, 0, (x, v) -> x.ofLayer(v, what));
            PAPERED.range("ofLayer: layers 0 .. 3, " + what, UNKNOWN, 0, 3, (x, v) -> x.ofLayer(v, what));
            SIX_LAYERS.range("ofLayer: layers 0 .. 5, " + what, UNKNOWN, 0, 5, (x, v) -> x.ofLayer(v, what));
        }
        PAPERED.range("ofLayer: what 0 .. 5", OUTSIDE, 0, 5, (x, v) -> x.ofLayer(0, v));
        SIX_LAYERS.range("ofLayer: what 0 .. 5 of the last", OUTSIDE, 0, 5, (x, v) -> x.ofLayer(5, v));
    }

    /** "if WARM less DAMP is no less than its GRIP, and all above it are LIFTED, too". */
    private static void liftedAtTheEdge() {
        PaperLayers x = Check.made("w00;t90;s00;r90");
        x.wet(2);
        int[][] want = {{11, 0, 0, 0}, {12, 1, 1, 0}, {19, 1, 1, 0}, {20, 1, 1, 1}};
        for (int[] w : want) {
            x.heat(w[0]);
            for (int k = 0; k < 3; k++) {
                due("layer " + k + " by " + w[0], x.ofLayer(k, 4), w[k + 1]);
                due("heard " + k + " by " + w[0], x.ofLayer(k, 5), k < 2 ? w[k + 1] : 0);
            }
        }
        PaperLayers none = Check.made("w00;s00;s00");
        due("0 is no less than 0", none.ofLayer(1, 4), 1);
        none.wet(1);
        due("below 0 is less", none.ofLayer(0, 4), 0);
        none.wet(9);
        due("far below 0, too", none.ofLayer(0, 4), 0);
    }

    private static void heat() {
        PAPERED.range("heat: 0 .. 20", OUTSIDE, 0, 20, (x, v) -> x.heat(v));
        BARE.range("heat: 0 .. 20 without a wall", OUTSIDE, 0, 20, (x, v) -> x.heat(v));
        BARE.plain("heat: there is no WALL", STATE, x -> x.heat(0));
        BARE.plain("heat: there is no WALL", STATE, x -> x.heat(20));
        PaperLayers x = States.papered();
        due("what it was by the text", x.heat(0), 7);
        due("the least", x.many(1), 0);
        due("what it was, the least", x.heat(20), 0);
        due("the greatest", x.many(1), 20);
        due("what it was, the greatest", x.heat(20), 20);
        due("damp is as it was", x.many(2), 1);
        due("of one layer", States.lone().heat(9), 5);
    }

    private static void wet() {
        PAPERED.range("wet: 0 .. 9", OUTSIDE, 0, 9, (x, v) -> x.wet(v));
        BARE.range("wet: 0 .. 9 without a wall", OUTSIDE, 0, 9, (x, v) -> x.wet(v));
        BARE.plain("wet: there is no WALL", STATE, x -> x.wet(0));
        BARE.plain("wet: there is no WALL", STATE, x -> x.wet(9));
        PaperLayers x = States.papered();
        due("what it was by the text", x.wet(0), 1);
        due("the least", x.many(2), 0);
        due("what it was, the least", x.wet(9), 0);
        due("the greatest", x.many(2), 9);
        due("what it was, the greatest", x.wet(9), 9);
        due("warm is as it was", x.many(1), 7);
        due("of one layer", States.lone().wet(9), 0);
    }

    private static void paste() {
        PAPERED.range("paste: 0 .. 9", OUTSIDE, 0, 9, (x, v) -> x.paste(3, v));
        PAPERED.range("paste: layers 0 .. 3", UNKNOWN, 0, 3, (x, v) -> x.paste(v, 5));
        SIX_LAYERS.range("paste: layers 0 .. 5", UNKNOWN, 0, 5, (x, v) -> x.paste(v, 5));
        LONE.range("paste: layer 0 alone", UNKNOWN, 0, 0, (x, v) -> x.paste(v, 5));
        BARE.plain("paste: no layer", UNKNOWN, x -> x.paste(0, 5));
        PaperLayers x = States.papered();
        due("what it was", x.paste(3, 0), 1);
        due("the least", x.ofLayer(3, 1), 0);
        due("what it was, the least", x.paste(3, 9), 0);
        due("the greatest", x.ofLayer(3, 1), 9);
        due("its grip", x.ofLayer(3, 3), 18);
        due("what it was, the greatest", x.paste(3, 9), 9);
        due("the one above is as it was", x.ofLayer(2, 1), 5);
    }

    private static void many() {
        BARE.range("many: 0 .. 4 without a wall", OUTSIDE, 0, 4, (x, v) -> x.many(v));
        PAPERED.range("many: 0 .. 4", OUTSIDE, 0, 4, (x, v) -> x.many(v));
        int[][] want = {{0, 0, 0, 0, 0}, {4, 7, 1, 3, 3}, {6, 9, 0, 6, 8}, {1, 5, 0, 1, 0}};
        PaperLayers[] states = {States.bare(), States.papered(), States.full(), States.lone()};
        for (int s = 0; s < states.length; s++) {
            for (int what = 0; what < 5; what++) {
                due("many " + what + " of state " + s, states[s].many(what), want[s][what]);
            }
        }
    }
}
