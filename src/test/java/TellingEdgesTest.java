/** The edges of part 5, promises 28 to 32: tell, stroke, as, trace, fault. */
public final class TellingEdgesTest {
    private static final int UNKNOWN = PaperLayers.UNKNOWN, OUTSIDE = PaperLayers.OUTSIDE;
    private static final int CAST = 2;
    private static final Check CHECK = new Check();
    private static final Refusals BARE = new Refusals(CHECK, "no wall", States::bare);
    private static final Refusals PAPERED = new Refusals(CHECK, "four layers", States::papered);
    private static final Refusals SIX = new Refusals(CHECK, "six layers", States::full);
    private static final Refusals LONE = new Refusals(CHECK, "one layer", States::lone);

    public static void main(String[] args) {
        layersOnly();
        tellLeastAndGreatest();
        strokeLeastAndGreatest();
        traceWraps();
        traceOfAllCalls();
        asEachKind();
        asRefused();
        CHECK.end();
    }

    private static void due(String call, long got, long want) {
        CHECK.due(call, got, want);
    }

    private static void layersOnly() {
        BARE.plain("tell: no layer", UNKNOWN, x -> x.tell(0));
        BARE.plain("stroke: no layer", UNKNOWN, x -> x.stroke(0));
        Refusals[] states = {LONE, PAPERED, SIX};
        int[] last = {0, 3, 5};
        for (int s = 0; s < states.length; s++) {
            states[s].range("tell: layers", UNKNOWN, 0, last[s], (x, v) -> x.tell(v));
            states[s].range("stroke: layers", UNKNOWN, 0, last[s], (x, v) -> x.stroke(v));
        }
    }

    /** "STRIPE (1): HOLD. TRELLIS (2): what STRIPE's gives, and 100. RED (3): what TRELLIS's gives, and what STRIPE's gives". */
    private static void tellLeastAndGreatest() {
        String[] texts = {"w00;s09;s00", "w00;s90;s00", "w00;t09;s00", "w00;t90;s00", "w00;r09;s00", "w00;r90;s00"};
        int[] tellings = {0, 9, 100, 109, 100, 118};
        int[] traces = {1, 1, 2 * 31 + 1, 2 * 31 + 1, ((3 * 31 + 2) * 31 + 1) * 31 + 1, ((3 * 31 + 2) * 31 + 1) * 31 + 1};
        for (int t = 0; t < texts.length; t++) {
            PaperLayers x = Check.made(texts[t]);
            due("trace at first", x.trace(), 0);
            due("telling of " + texts[t], x.tell(0), tellings[t]);
            due("its trace", x.trace(), traces[t]);
            due("trace asked again", x.trace(), traces[t]);
        }
        PaperLayers x = Check.made("w00;r00;s00");
        x.paste(0, 7);
        due("by the hold as it is now", x.tell(0), 114);
        due("warm or not, under red or not", x.tell(1), 0);
    }

    /** "STROKED by a lent body (4): ADVICE; RED ones have their own (5): 10." */
    private static void strokeLeastAndGreatest() {
        String[] texts = {"w00;s90;s00", "w00;s09;s00", "w00;t90;s00", "w00;t09;s00", "w00;r90;s00", "w00;r09;s00"};
        int[] strokes = {0, 9, 0, 9, 10, 10};
        for (int t = 0; t < texts.length; t++) {
            PaperLayers x = Check.made(texts[t]);
            due("stroke of " + texts[t], x.stroke(0), strokes[t]);
            due("its trace", x.trace(), t < 4 ? 4 : 5);
            due("and again", x.stroke(0), strokes[t]);
            due("trace of both", x.trace(), t < 4 ? 4 * 32 : 5 * 32);
        }
    }

    /** "TRACE (an int that wraps, 0 at first, becomes 31 times it and the number)". */
    private static void traceWraps() {
        // 4 times 1 + 31 + .. + 31 to the 6th passes the greatest int: the first wrap is by the seventh stroke
        long[] want = {4, 128, 3972, 123136, 3817220, 118333824, -626618748, 2049655296, -885195260, -1671249280};
        PaperLayers x = Check.made("w00;s00;s00");
        for (int n = 0; n < want.length; n++) {
            x.stroke(0);
            due("trace behind " + (n + 1) + " strokes", x.trace(), want[n]);
        }
    }

    /** 512 calls are promised: the trace goes on up to the last of them. */
    private static void traceOfAllCalls() {
        PaperLayers x = Check.made("w00;r00;s00");
        int calls = 2 + "w00;r00;s00".length();
        int trace = 0;
        for (; calls < 511; calls++) {
            due("tell at call " + calls, x.tell(0), 100);
            for (int number : new int[] {3, 2, 1, 1}) {
                trace = 31 * trace + number;
            }
        }
        due("trace, the last call", x.trace(), trace);
    }

    /** "CAST: it is none (each is a STRIPE, too; a RED one is a TRELLIS)". */
    private static void asEachKind() {
        Refusals kinds = new Refusals(CHECK, "a stripe, a trellis, a red one", () -> Check.made("w00;s41;t52;r63"));
        boolean[][] is = {{true, false, false}, {true, true, false}, {true, true, true}};
        for (int given = 0; given < 3; given++) {
            int k = given;
            for (int taken = 0; taken < 3; taken++) {
                int kind = taken;
                if (is[k][kind]) {
                    kinds.naming("as: layer " + k + " is " + kind, 1, x -> x.as(k, kind));
                } else {
                    kinds.fault("as: layer " + k + " is no " + kind, CAST, x -> x.as(k, kind));
                }
            }
        }
    }

    private static void asRefused() {
        BARE.naming("as: no layer", UNKNOWN, x -> x.as(0, 0));
        Refusals[] states = {LONE, PAPERED, SIX};
        int[] last = {0, 3, 5};
        for (int s = 0; s < states.length; s++) {
            states[s].rangeNaming("as: layers", UNKNOWN, 0, last[s], (x, v) -> x.as(v, 0));
            states[s].rangeNaming("as: kind 0 .. 2", OUTSIDE, 0, 2, (x, v) -> x.as(0, v));
        }
    }
}
