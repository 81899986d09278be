/** Promises 1 to 6 and 33: a new object, wall, ofLayer, heat, wet, paste, many. */
public final class WallTest {
    private static final Check CHECK = new Check();

    public static void main(String[] args) {
        newObject();
        textsThatAreTaken();
        firstFaults();
        whatWallRefuses();
        allAnew();
        parts();
        liftedAndHeard();
        heatAndWet();
        paste();
        CHECK.end();
    }

    private static void due(String call, long got, long want) {
        CHECK.due(call, got, want);
    }

    private static void newObject() {
        PaperLayers x = new PaperLayers();
        for (int what = 0; what < 5; what++) {
            due("many " + what + " of a new object", x.many(what), 0);
        }
        for (int k = 0; k < 4; k++) {
            due("lose " + k + " of a new object", x.lose(k), 0);
        }
        due("trace of a new object", x.trace(), 0);
        due("fault of a new object", x.fault(), 0);
        due("heard of a new object", x.heard(), PaperLayers.STATE);
        due("many below", x.many(-1), PaperLayers.OUTSIDE);
        due("many above", x.many(5), PaperLayers.OUTSIDE);
    }

    private static void textsThatAreTaken() {
        due("two layers", Check.wall(new PaperLayers(), "w00;s00;s00"), 2);
        due("six layers", Check.wall(new PaperLayers(), "w99;s99;t99;r99;s00;t00;r00"), 6);
        for (int lane = 0; lane <= 2; lane++) {
            PaperLayers x = new PaperLayers();
            Check.lay(x, lane, lane, "xxw57;s12;t34;r56;");
            due("from i on, lane " + lane, x.wall(lane, lane, 2, 15), 3);
            due("many layers", x.many(0), 3);
            due("many warm", x.many(1), 5);
            due("many damp", x.many(2), 7);
            due("kind of the last", x.ofLayer(2, 0), 2);
            due("hold of the last", x.ofLayer(2, 1), 5);
            due("advice of the last", x.ofLayer(2, 2), 6);
        }
        PaperLayers cut = new PaperLayers();
        Check.lay(cut, 0, 0, "w00;s00;s00");
        cut.put(0, 0, 'w' + 256);
        due("a code that is cut to its lane", cut.wall(0, 0, 0, 11), 2);
        Check.lay(cut, 0, 1, "w00;s00;s00");
        cut.put(0, 0, 'w' + 256);
        due("a code that is not cut", cut.wall(0, 1, 0, 11), -100);
    }

    private static void firstFaults() {
        String whole = "w52;s34;t12;r01;s00;t98;r76";
        for (int n = 0; n <= whole.length(); n++) {
            boolean isText = n >= 11 && n % 4 == 3;
            due("the first " + n, Check.wall(new PaperLayers(), whole.substring(0, n)), isText ? (n - 3) / 4 : -100 - n);
        }
        for (int place = 0; place < whole.length(); place++) {
            char[] codes = whole.toCharArray();
            for (char wrong : new char[] {'x', '/', ':', 'S', 0, 255}) {
                codes[place] = wrong;
                due(wrong + " at " + place, Check.wall(new PaperLayers(), new String(codes)), -100 - place);
            }
        }
        due("a seventh layer", Check.wall(new PaperLayers(), whole + ";s00"), -127);
        due("the ; of a seventh layer", Check.wall(new PaperLayers(), whole + ";"), -127);
        due("a code where a ; is due", Check.wall(new PaperLayers(), "w52;s34;t12s"), -111);
        due("the first of two", Check.wall(new PaperLayers(), "w52;x34;x12"), -104);
        due("a fault behind which it ends too soon", Check.wall(new PaperLayers(), "w5;"), -102);
    }

    private static void whatWallRefuses() {
        PaperLayers x = new PaperLayers();
        Check.lay(x, 0, 1, "w52;s34;t12");
        due("no such sheet below", x.wall(-1, 9, 0, 11), PaperLayers.UNKNOWN);
        due("no such sheet above", x.wall(4, 1, 0, 11), PaperLayers.UNKNOWN);
        due("no such lane below", x.wall(1, -1, 0, 11), PaperLayers.OUTSIDE);
        due("no such lane above", x.wall(0, 3, 0, 11), PaperLayers.OUTSIDE);
        due("another lane, ahead of SIZE", x.wall(0, 0, 0, -1), -12);
        due("fault CAST", x.fault(), 2);
        due("nothing is no CAST, ahead of SIZE", x.wall(1, 0, 0, -1), -11);
        due("fault NULL", x.fault(), 1);
        due("SIZE, ahead of INDEX", x.wall(0, 1, -1, -1), -14);
        due("fault SIZE", x.fault(), 4);
        due("one cell too many", x.wall(0, 1, 0, 12), -13);
        due("fault INDEX", x.fault(), 3);
        due("i below 0", x.wall(0, 1, -1, 11), -13);
        due("i below 0, none taken", x.wall(0, 1, -1, 0), -13);
        due("i beyond, none taken", x.wall(0, 1, 12, 0), -13);
        due("i at the end, none taken", x.wall(0, 1, 11, 0), -100);
        due("no fault by a text's fault", x.fault(), 0);
        due("i and n that wrap", x.wall(0, 1, 1, Integer.MAX_VALUE), -13);
        due("i that wraps", x.wall(0, 1, Integer.MAX_VALUE, 1), -13);
        due("a refusal takes the fault away", x.wall(4, 1, 0, 11), PaperLayers.UNKNOWN);
        due("fault then", x.fault(), 0);
        due("nothing came of it", x.many(0), 0);
        x.wall(0, 1, 0, 12);
        due("taken", x.wall(0, 1, 0, 11), 2);
        due("fault behind one that is taken", x.fault(), 0);
    }

    private static void allAnew() {
        PaperLayers x = Check.made("w90;s12;s34;s56");
        x.reading(9, 0, 2);
        due("readings", x.many(4), 1);
        due("a wrong text", Check.wall(x, "w1"), -102);
        due("readings stay by a wrong text", x.many(4), 1);
        due("layers stay by a wrong text", x.many(0), 3);
        due("warm stays by a wrong text", x.many(1), 9);
        x.tell(0);
        int trace = x.trace();
        due("another text", Check.wall(x, "w12;t00;t00"), 2);
        due("no readings", x.many(4), 0);
        due("layers", x.many(0), 2);
        due("warm", x.many(1), 1);
        due("damp", x.many(2), 2);
        due("kind", x.ofLayer(0, 0), 1);
        due("the old third one is gone", x.ofLayer(2, 0), PaperLayers.UNKNOWN);
        due("trace is none of the wall's", x.trace(), trace);
    }

    private static void parts() {
        PaperLayers x = Check.made("w00;s04;t93;r92;r01;t00");
        int[][] want = {{0, 0, 4, 0}, {1, 9, 3, 10}, {2, 9, 2, 18}, {2, 0, 1, 0}, {1, 0, 0, 1}};
        for (int k = 0; k < want.length; k++) {
            for (int what = 0; what < 4; what++) {
                due("ofLayer " + k + " " + what, x.ofLayer(k, what), want[k][what]);
            }
        }
        due("no layer", x.ofLayer(5, 0), PaperLayers.UNKNOWN);
        due("no layer below", x.ofLayer(-1, 9), PaperLayers.UNKNOWN);
        due("no such part", x.ofLayer(0, 6), PaperLayers.OUTSIDE);
        due("no such part below", x.ofLayer(0, -1), PaperLayers.OUTSIDE);
    }

    private static void liftedAndHeard() {
        PaperLayers x = Check.made("w51;s44;t30;s51;s02");
        int[] lifted = {1, 1, 0, 0};
        for (int k = 0; k < 4; k++) {
            due("lifted " + k, x.ofLayer(k, 4), lifted[k]);
            due("heard " + k, x.ofLayer(k, 5), lifted[k]);
        }
        due("how many are heard", x.many(3), 2);
        PaperLayers red = Check.made("w40;s00;r20;s00");
        due("lifted red", red.ofLayer(1, 4), 1);
        due("red is not heard", red.ofLayer(1, 5), 0);
        due("lifted under red", red.ofLayer(2, 4), 1);
        due("not heard under red", red.ofLayer(2, 5), 0);
        due("one is heard", red.many(3), 1);
        PaperLayers cold = Check.made("w01;s00;s00");
        due("warm less damp below 0 lifts none", cold.ofLayer(0, 4), 0);
        due("none is heard", cold.many(3), 0);
    }

    private static void heatAndWet() {
        PaperLayers x = new PaperLayers();
        due("heat without a wall", x.heat(20), PaperLayers.STATE);
        due("heat outside comes first", x.heat(21), PaperLayers.OUTSIDE);
        due("wet without a wall", x.wet(9), PaperLayers.STATE);
        due("wet outside comes first", x.wet(10), PaperLayers.OUTSIDE);
        Check.wall(x, "w34;s00;s00");
        due("heat", x.heat(20), 3);
        due("heat above", x.heat(21), PaperLayers.OUTSIDE);
        due("heat below", x.heat(-1), PaperLayers.OUTSIDE);
        due("heat again", x.heat(0), 20);
        due("warm", x.many(1), 0);
        due("damp is as it was", x.many(2), 4);
        due("wet", x.wet(9), 4);
        due("wet above", x.wet(10), PaperLayers.OUTSIDE);
        due("wet below", x.wet(-1), PaperLayers.OUTSIDE);
        due("wet again", x.wet(0), 9);
        due("damp", x.many(2), 0);
    }

    private static void paste() {
        PaperLayers x = new PaperLayers();
        due("paste without a wall", x.paste(0, 0), PaperLayers.UNKNOWN);
        Check.wall(x, "w90;s00;r42");
        due("paste", x.paste(1, 9), 4);
        due("hold then", x.ofLayer(1, 1), 9);
        due("grip then", x.ofLayer(1, 3), 18);
        due("advice as it was", x.ofLayer(1, 2), 2);
        due("the other as it was", x.ofLayer(0, 1), 0);
        due("no layer comes first", x.paste(2, 10), PaperLayers.UNKNOWN);
        due("no layer below", x.paste(-1, 0), PaperLayers.UNKNOWN);
        due("above", x.paste(1, 10), PaperLayers.OUTSIDE);
        due("below", x.paste(1, -1), PaperLayers.OUTSIDE);
        due("hold as it was", x.paste(1, 0), 9);
    }
}
