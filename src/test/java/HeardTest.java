/** Promises 7 to 12: heard, counsel, clash, putUp, peel, days. */
public final class HeardTest {
    private static final Check CHECK = new Check();

    public static void main(String[] args) {
        heard();
        counsel();
        clash();
        putUp();
        peel();
        daysAnswer();
        daysThatGoWrong();
        daysRefused();
        daysChangeNothing();
        CHECK.end();
    }

    private static void due(String call, long got, long want) {
        CHECK.due(call, got, want);
    }

    private static void heard() {
        due("without a wall", new PaperLayers().heard(), PaperLayers.STATE);
        due("all six", Check.made("w90;s00;s00;s00;s00;s00;s00").heard(), 63);
        due("up to one that holds", Check.made("w30;s00;t20;t30;s00").heard(), 3);
        due("up to the first red", Check.made("w90;s00;s00;r00;s00;r00").heard(), 3);
        due("red on top", Check.made("w90;r00;s00").heard(), 0);
        due("too damp", Check.made("w34;s00;s00").heard(), 0);
        due("just so warm", Check.made("w52;s30;t20").heard(), 3);
        due("one too cold", Check.made("w42;s30;t20").heard(), 0);
    }

    private static void counsel() {
        due("without a wall", new PaperLayers().counsel(20, 9), PaperLayers.STATE);
        due("warm outside comes first", new PaperLayers().counsel(21, 0), PaperLayers.OUTSIDE);
        PaperLayers x = Check.made("w00;s01;s12;s22;s33;s43;s51");
        int[] want = {1, 1, 2, 2, 2, 1};
        for (int warm = 0; warm < 6; warm++) {
            due("counsel by " + warm, x.counsel(warm, 0), want[warm]);
            due("counsel by " + warm + " and damp", x.counsel(warm + 9, 9), want[warm]);
        }
        due("nobody", x.counsel(0, 1), PaperLayers.NONE);
        due("all by 20", x.counsel(20, 0), 1);
        due("warm above", x.counsel(21, 0), PaperLayers.OUTSIDE);
        due("warm below", x.counsel(-1, 0), PaperLayers.OUTSIDE);
        due("damp above", x.counsel(0, 10), PaperLayers.OUTSIDE);
        due("damp below", x.counsel(0, -1), PaperLayers.OUTSIDE);
        due("warm is as it was", x.many(1), 0);
        due("of several the topmost's", Check.made("w90;s07;s03;s03;s07").counsel(9, 0), 7);
        due("most against the topmost", Check.made("w90;s07;s03;s03").counsel(9, 0), 3);
        due("advice 0", Check.made("w90;s00;s03;s00").counsel(9, 0), 0);
        due("red's advice is not heard", Check.made("w90;s05;r06;s06").counsel(20, 0), 5);
        due("nobody by red", Check.made("w90;r06;s06").counsel(20, 0), PaperLayers.NONE);
    }

    private static void clash() {
        due("without a wall", new PaperLayers().clash(0), PaperLayers.STATE);
        due("outside comes first", new PaperLayers().clash(2), PaperLayers.OUTSIDE);
        due("below", Check.made("w90;s00;s00").clash(-1), PaperLayers.OUTSIDE);
        String[] texts = {"w00;s11;s12", "w90;s01;s01", "w90;s01;s02", "w90;s01;s02;s01;s02;s03;s01",
            "w90;s01;s02;s03;s04;s05;s06", "w90;s01;s02;r03;s04", "w00;s01;s12"};
        int[] clashes = {0, 0, 1, 11, 15, 1, 0};
        int[] spoilt = {0, 0, 1, 3, 5, 1, 0};
        for (int t = 0; t < texts.length; t++) {
            due("clash of " + texts[t], Check.made(texts[t]).clash(0), clashes[t]);
            due("spoilt of " + texts[t], Check.made(texts[t]).clash(1), spoilt[t]);
        }
    }

    private static void putUp() {
        due("without a wall", new PaperLayers().putUp(2, 9, 9), PaperLayers.STATE);
        due("outside comes first", new PaperLayers().putUp(3, 0, 0), PaperLayers.OUTSIDE);
        PaperLayers x = Check.made("w90;s12;t34;r56");
        x.reading(9, 0, 0);
        due("putUp", x.putUp(1, 9, 8), 4);
        int[][] want = {{1, 9, 8}, {0, 1, 2}, {1, 3, 4}, {2, 5, 6}};
        for (int k = 0; k < 4; k++) {
            for (int what = 0; what < 3; what++) {
                due("layer " + k + " part " + what, x.ofLayer(k, what), want[k][what]);
            }
        }
        due("readings stay", x.many(4), 1);
        due("hold above", x.putUp(0, 10, 0), PaperLayers.OUTSIDE);
        due("hold below", x.putUp(0, -1, 0), PaperLayers.OUTSIDE);
        due("advice above", x.putUp(0, 0, 10), PaperLayers.OUTSIDE);
        due("advice below", x.putUp(0, 0, -1), PaperLayers.OUTSIDE);
        due("kind below", x.putUp(-1, 0, 0), PaperLayers.OUTSIDE);
        due("kind above", x.putUp(3, 0, 0), PaperLayers.OUTSIDE);
        due("fifth", x.putUp(0, 0, 0), 5);
        due("sixth", x.putUp(2, 0, 1), 6);
        due("outside ahead of full", x.putUp(3, 0, 0), PaperLayers.OUTSIDE);
        due("full", x.putUp(0, 7, 7), PaperLayers.FULL);
        due("still six", x.many(0), 6);
        due("the topmost stays", x.ofLayer(0, 0), 2);
        due("the last stays", x.ofLayer(5, 2), 6);
    }

    private static void peel() {
        due("without a wall", new PaperLayers().peel(), PaperLayers.STATE);
        PaperLayers x = Check.made("w41;r17;s48;s32");
        x.reading(9, 0, 0);
        due("a red one that is lifted", x.peel(), 7);
        due("two are left", x.many(0), 2);
        due("the next is topmost", x.ofLayer(0, 2), 8);
        due("and holds", x.ofLayer(0, 1), 4);
        due("the last has 1 less", x.ofLayer(1, 2), 2);
        due("no third", x.ofLayer(2, 0), PaperLayers.UNKNOWN);
        due("readings stay", x.many(4), 1);
        due("it holds too firmly", x.peel(), PaperLayers.STATE);
        due("two still", x.many(0), 2);
        x.heat(20);
        due("warm enough", x.peel(), 8);
        due("not the only one", x.peel(), PaperLayers.STATE);
        due("one still", x.many(0), 1);
        due("the only one is heard", x.heard(), 1);
        due("one is put up again", x.putUp(0, 0, 3), 2);
        due("and peeled", x.peel(), 3);
    }

    private static void daysAnswer() {
        PaperLayers x = Check.made("w31;s24;t11;r01;s05");
        int[][] days = {{}, {0, 20}, {1, 9}, {2, 0}, {2, 0, 2, 0}, {2, 0, 2, 0, 2, 0}, {3, 2}, {3, 3, 0, 4, 2, 0},
            {1, 9, 0, 0, 1, 0, 0, 1, 0, 2}, {3, 0, 3, 1, 2, 0, 3, 2}};
        int[][] want = {{4, 4, 3, 0}, {4, 4, 3, 1}, {4, -9, 0, 0}, {3, 1, 1, 1}, {2, -9, 0, 1}, {1, 5, 1, 2},
            {5, 2, 7, 1}, {4, 4, 3, 2}, {4, 4, 3, 1}, {6, 2, 15, 4}};
        for (int d = 0; d < days.length; d++) {
            due("layers after days " + d, Check.days(x, 0, days[d]), want[d][0]);
            due("first wrong of days " + d, Check.days(x, 1, days[d]), PaperLayers.NONE);
            due("counsel after days " + d, Check.days(x, 2, days[d]), want[d][1]);
            due("heard after days " + d, Check.days(x, 3, days[d]), want[d][2]);
            due("behind how many of days " + d, Check.days(x, 4, days[d]), want[d][3]);
        }
        PaperLayers y = Check.made("w00;s24;s25");
        due("a stripe of hold and advice v", Check.days(y, 2, 0, 7, 3, 7), 7);
        due("it holds as v", Check.days(y, 2, 0, 7, 3, 8), PaperLayers.NONE);
        int[] twenty = new int[40];
        due("twenty days", Check.days(y, 0, twenty), 2);
        Check.layNumbers(y, 0, 0, 9, 9, 9, 0, 5, 3, 5);
        due("from i on, as bytes", y.days(0, 0, 3, 2, 3), 7);
        Check.layNumbers(y, 0, 1, 9, 9, 9, 0, 5, 3, 5);
        due("from i on, as shorts", y.days(0, 1, 3, 2, 0), 3);
    }

    private static void daysThatGoWrong() {
        PaperLayers x = Check.made("w00;s01;s12;s23");
        int[][] days = {{1, 9, 2, 0}, {3, 0, 3, 0, 3, 0, 3, 0}, {0, 20, 2, 0, 2, 0, 2, 0}, {3, 1, 2, 0}, {1, 1, 2, 0, 2, 0}};
        int[] wrong = {1, 3, 3, 1, 1};
        for (int d = 0; d < days.length; d++) {
            for (int what = 0; what < 5; what++) {
                due("wrong days " + d + " what " + what, Check.days(x, what, days[d]), what == 1 ? wrong[d] : -100 - wrong[d]);
            }
        }
        PaperLayers one = Check.made("w90;s00;s00");
        one.peel();
        due("the only one can't be peeled", Check.days(one, 1, 2, 0), 0);
        due("-100 less 0", Check.days(one, 0, 2, 0), -100);
    }

    private static void daysRefused() {
        PaperLayers x = new PaperLayers();
        due("nothing ahead of no wall", x.days(0, 0, 0, 0, 0), -11);
        Check.layNumbers(x, 0, 2, 0, 21, 4, 0);
        due("no wall ahead of the pairs", x.days(0, 2, 0, 2, 0), PaperLayers.STATE);
        due("index ahead of no wall", x.days(0, 2, 0, 3, 0), -13);
        due("fault INDEX", x.fault(), 3);
        due("a refusal", x.days(0, 2, 0, 2, 0), PaperLayers.STATE);
        due("takes the fault away", x.fault(), 0);
        Check.wall(x, "w90;s00;s00");
        due("sheet below", x.days(-1, 9, 0, 0, 0), PaperLayers.UNKNOWN);
        due("sheet above", x.days(4, 2, 0, 0, 0), PaperLayers.UNKNOWN);
        due("lane below", x.days(1, -1, 0, 0, 0), PaperLayers.OUTSIDE);
        due("lane above", x.days(1, 3, 0, 0, 0), PaperLayers.OUTSIDE);
        due("n below", x.days(1, 2, 0, -1, 0), PaperLayers.OUTSIDE);
        due("n above", x.days(1, 2, 0, 21, 0), PaperLayers.OUTSIDE);
        due("what below", x.days(1, 2, 0, 0, -1), PaperLayers.OUTSIDE);
        due("what above", x.days(1, 2, 0, 0, 5), PaperLayers.OUTSIDE);
        due("another lane", x.days(0, 1, 9, 1, 0), -12);
        due("nothing", x.days(1, 1, 9, 1, 0), -11);
        due("i below", x.days(0, 2, -1, 1, 0), -13);
        due("i below, none taken", x.days(0, 2, -1, 0, 0), -13);
        due("i beyond, none taken", x.days(0, 2, 5, 0, 0), -13);
        due("i at the end, none taken", x.days(0, 2, 4, 0, 0), 2);
        due("half a pair", x.days(0, 2, 3, 1, 0), -13);
        due("i that wraps", x.days(0, 2, Integer.MAX_VALUE, 20, 0), -13);
        int[][] outside = {{0, 21}, {0, -1}, {1, 10}, {1, -1}, {2, 1}, {2, -1}, {3, 10}, {3, -1}, {4, 0}, {-1, 0}};
        for (int[] pair : outside) {
            due("pair " + pair[0] + " " + pair[1], Check.days(x, 1, pair), PaperLayers.OUTSIDE);
            due("behind another " + pair[0] + " " + pair[1], Check.days(x, 1, 0, 5, pair[0], pair[1]), PaperLayers.OUTSIDE);
            due("behind a wrong act " + pair[0] + " " + pair[1], Check.days(x, 1, 2, 0, 2, 0, pair[0], pair[1]), PaperLayers.OUTSIDE);
        }
    }

    private static void daysChangeNothing() {
        PaperLayers x = Check.made("w30;s24;t11;s05");
        x.reading(3, 0, 4);
        Check.days(x, 0, 0, 9, 1, 2, 2, 0, 3, 7, 3, 8);
        Check.days(x, 0, 0, 9, 1, 2, 2, 0, 2, 0, 2, 0);
        due("layers", x.many(0), 3);
        due("warm", x.many(1), 3);
        due("damp", x.many(2), 0);
        due("readings", x.many(4), 1);
        due("advice of 0", x.ofLayer(0, 2), 4);
        due("kind of 1", x.ofLayer(1, 0), 1);
        due("hold of 2", x.ofLayer(2, 1), 0);
    }
}
