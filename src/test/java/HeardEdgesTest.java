/** The edges of part 2, promises 7 to 11: heard, counsel, clash, putUp, peel. */
public final class HeardEdgesTest {
    private static final int UNKNOWN = PaperLayers.UNKNOWN, OUTSIDE = PaperLayers.OUTSIDE, STATE = PaperLayers.STATE,
        FULL = PaperLayers.FULL, NONE = PaperLayers.NONE;
    private static final Check CHECK = new Check();
    private static final Refusals BARE = new Refusals(CHECK, "no wall", States::bare);
    private static final Refusals PAPERED = new Refusals(CHECK, "four layers", States::papered);
    private static final Refusals SIX = new Refusals(CHECK, "six layers", States::full);
    private static final Refusals LONE = new Refusals(CHECK, "one layer", States::lone);

    public static void main(String[] args) {
        heard();
        redAtEachPlace();
        counselByItsNumbers();
        counselOfSeveral();
        nobodyHeard();
        clash();
        putUpRefused();
        putUpUpToSix();
        peelRefused();
        peelAtTheEdge();
        CHECK.end();
    }

    private static void due(String call, long got, long want) {
        CHECK.due(call, got, want);
    }

    private static void heard() {
        BARE.plain("heard: there is no WALL", STATE, x -> x.heard());
        due("all six", States.full().heard(), 63);
        due("the only one", States.lone().heard(), 1);
        due("nobody: the empty set", Check.made("w01;s00;s00").heard(), 0);
        PaperLayers x = Check.made("w00;s10;s20;s30;s40;s50;s60");
        for (int warm = 0; warm <= 7; warm++) {
            x.heat(warm);
            due("by " + warm, x.heard(), (1 << Math.min(warm, 6)) - 1);
            due("how many by " + warm, x.many(3), Math.min(warm, 6));
        }
    }

    /** "up to the first RED one (it is not HEARD, nor what lies under it)". */
    private static void redAtEachPlace() {
        for (int place = 0; place < 6; place++) {
            StringBuilder text = new StringBuilder("w90;s00;s00;s00;s00;s00;s00");
            text.setCharAt(4 + 4 * place, 'r');
            PaperLayers x = Check.made(text.toString());
            due("red at " + place, x.heard(), (1 << place) - 1);
            for (int k = 0; k < 6; k++) {
                due("red at " + place + ", lifted " + k, x.ofLayer(k, 4), 1);
                due("red at " + place + ", heard " + k, x.ofLayer(k, 5), k < place ? 1 : 0);
            }
        }
        due("the first of two red ones", Check.made("w90;s00;r00;s00;r00").heard(), 1);
    }

    private static void counselByItsNumbers() {
        PAPERED.range("counsel: warm 0 .. 20", OUTSIDE, 0, 20, (x, v) -> x.counsel(v, 0));
        PAPERED.range("counsel: damp 0 .. 9", OUTSIDE, 0, 9, (x, v) -> x.counsel(20, v));
        BARE.range("counsel: warm 0 .. 20 without a wall", OUTSIDE, 0, 20, (x, v) -> x.counsel(v, 0));
        BARE.range("counsel: damp 0 .. 9 without a wall", OUTSIDE, 0, 9, (x, v) -> x.counsel(20, v));
        BARE.plain("counsel: there is no WALL", STATE, x -> x.counsel(0, 0));
        BARE.plain("counsel: there is no WALL", STATE, x -> x.counsel(20, 9));
        PaperLayers x = Check.made("w00;s09;t90;t90");
        due("the least warm and damp", x.counsel(0, 0), 9);
        due("one more damp", x.counsel(0, 1), NONE);
        due("the greatest warm", x.counsel(20, 0), 0);
        due("the greatest of both", x.counsel(20, 9), 0);
        due("just so warm", x.counsel(19, 9), 0);
        due("one less warm", x.counsel(18, 9), 9);
        PAPERED.plain("counsel changes neither warm nor damp", 4, y -> y.counsel(20, 9));
    }

    /** "of several that of the topmost of those who give such". */
    private static void counselOfSeveral() {
        due("two of one each", Check.made("w90;s09;s00").counsel(9, 0), 9);
        due("two of one each, the other way", Check.made("w90;s00;s09").counsel(9, 0), 0);
        due("six of one each", Check.made("w90;s05;s04;s03;s02;s01;s00").counsel(9, 0), 5);
        due("three of two each", Check.made("w90;s02;s03;s01;s01;s03;s02").counsel(9, 0), 2);
        due("two of three each", Check.made("w90;s08;s07;s07;s07;s08;s08").counsel(9, 0), 8);
        due("two against one above them", Check.made("w90;s08;s07;s07").counsel(9, 0), 7);
        due("of several below one alone", Check.made("w90;s01;s03;s02;s02;s03").counsel(9, 0), 3);
        due("six alike", Check.made("w90;s09;s09;s09;s09;s09;s09").counsel(9, 0), 9);
        due("one alone", States.lone().counsel(4, 2), 4);
    }

    /** "NONE: nobody is HEARD". */
    private static void nobodyHeard() {
        due("too cold", Check.made("w00;s13;s03").counsel(0, 0), NONE);
        due("too damp", Check.made("w00;s03;s03").counsel(0, 9), NONE);
        due("red on top", Check.made("w90;r03;s03").counsel(20, 0), NONE);
        due("one alone that holds", States.lone().counsel(1, 0), NONE);
        PaperLayers x = Check.made("w01;s03;s04");
        due("no clash", x.clash(0), 0);
        due("none spoilt", x.clash(1), 0);
        due("none heard", x.many(3), 0);
    }

    private static void clash() {
        PAPERED.range("clash: what 0 .. 1", OUTSIDE, 0, 1, (x, v) -> x.clash(v));
        BARE.range("clash: what 0 .. 1 without a wall", OUTSIDE, 0, 1, (x, v) -> x.clash(v));
        BARE.plain("clash: there is no WALL", STATE, x -> x.clash(0));
        BARE.plain("spoilt: there is no WALL", STATE, x -> x.clash(1));
        String[] texts = {"w90;s01;s01;s01;s01;s01;s01", "w90;s00;s01;s02;s03;s04;s09", "w90;s00;s09", "w90;s09;s09",
            "w90;s01;s02;s02;s01;s02;s01", "w90;s01;s01;s02;s02;s03;s03", "w90;s01;r02;s03", "w90;r02;s03;s04",
            "w90;s01;s02;r03;s04;s05", "w50;s01;s52;s63;s04", "w90;s01;s01;s01;s01;s01;s02"};
        int[] clashes = {0, 15, 1, 0, 9, 12, 0, 0, 1, 1, 5};
        int[] spoilt = {0, 5, 1, 0, 3, 4, 0, 0, 1, 1, 1};
        for (int t = 0; t < texts.length; t++) {
            PaperLayers x = Check.made(texts[t]);
            due("clash of " + texts[t], x.clash(0), clashes[t]);
            due("spoilt of " + texts[t], x.clash(1), spoilt[t]);
        }
        due("one alone", States.lone().clash(0), 0);
        due("one alone, spoilt", States.lone().clash(1), 0);
    }

    private static void putUpRefused() {
        for (Refusals state : new Refusals[] {BARE, PAPERED, SIX}) {
            state.range("putUp: kind 0 .. 2", OUTSIDE, 0, 2, (x, v) -> x.putUp(v, 0, 0));
            state.range("putUp: hold 0 .. 9", OUTSIDE, 0, 9, (x, v) -> x.putUp(2, v, 9));
            state.range("putUp: advice 0 .. 9", OUTSIDE, 0, 9, (x, v) -> x.putUp(2, 9, v));
        }
        BARE.plain("putUp: there is no WALL", STATE, x -> x.putUp(0, 0, 0));
        BARE.plain("putUp: there is no WALL", STATE, x -> x.putUp(2, 9, 9));
        SIX.plain("putUp: there are six", FULL, x -> x.putUp(0, 0, 0));
        SIX.plain("putUp: there are six", FULL, x -> x.putUp(2, 9, 9));
    }

    /** "it is LAYER 0, all others have 1 more". */
    private static void putUpUpToSix() {
        PaperLayers x = States.lone();
        x.reading(2, 0, 4);
        for (int count = 2; count <= 6; count++) {
            int kind = count % 3;
            due("how many", x.putUp(kind, count, 9 - count), count);
            due("many", x.many(0), count);
            due("kind of the topmost", x.ofLayer(0, 0), kind);
            due("hold of the topmost", x.ofLayer(0, 1), count);
            due("advice of the topmost", x.ofLayer(0, 2), 9 - count);
            due("the first is the last", x.ofLayer(count - 1, 2), 4);
            due("none behind it", x.ofLayer(count, 2), UNKNOWN);
        }
        for (int k = 0; k < 5; k++) {
            due("hold of " + k, x.ofLayer(k, 1), 6 - k);
            due("advice of " + k, x.ofLayer(k, 2), 3 + k);
            due("kind of " + k, x.ofLayer(k, 0), (6 - k) % 3);
        }
        due("the reading stays", x.many(4), 1);
        due("a seventh", x.putUp(0, 0, 0), FULL);
        x.heat(20);
        due("one less", x.peel(), 3);
        due("a sixth again", x.putUp(2, 9, 9), 6);
        due("the greatest numbers: kind", x.ofLayer(0, 0), 2);
        due("hold", x.ofLayer(0, 1), 9);
        due("advice", x.ofLayer(0, 2), 9);
    }

    private static void peelRefused() {
        BARE.plain("peel: there is no WALL", STATE, x -> x.peel());
        LONE.plain("peel: the only one, though it is LIFTED", STATE, x -> x.peel());
        new Refusals(CHECK, "one too cold", () -> Check.made("w42;s34;s00")).plain("peel", STATE, x -> x.peel());
        new Refusals(CHECK, "a trellis, one too cold", () -> Check.made("w30;t34;s00")).plain("peel", STATE, x -> x.peel());
        new Refusals(CHECK, "red, one too cold", () -> Check.made("w50;r34;s00")).plain("peel", STATE, x -> x.peel());
        new Refusals(CHECK, "damper than warm", () -> Check.made("w01;s00;s00")).plain("peel", STATE, x -> x.peel());
    }

    /** "The topmost is PEELED off, if it is LIFTED, and not the only one: all others have 1 less." */
    private static void peelAtTheEdge() {
        due("just so warm", Check.made("w52;s34;s00").peel(), 4);
        due("a trellis, just so warm", Check.made("w40;t35;s00").peel(), 5);
        due("red, just so warm: LIFTED, though not HEARD", Check.made("w60;r36;s00").peel(), 6);
        PaperLayers x = States.full();
        int[] advices = {1, 2, 3, 4, 5};
        for (int left = 5; left >= 1; left--) {
            due("its advice", x.peel(), advices[5 - left]);
            due("layers left", x.many(0), left);
            due("the last has 1 less", x.ofLayer(left - 1, 1), 5);
            due("none behind it", x.ofLayer(left, 1), UNKNOWN);
            due("readings stay", x.many(4), 8);
        }
        due("the only one", x.peel(), STATE);
        due("which stays", x.ofLayer(0, 2), 1);
    }
}
