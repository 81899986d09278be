/** Promises 13 to 15: needs, gets, without. */
public final class HearingTest {
    private static final Check CHECK = new Check();

    public static void main(String[] args) {
        needs();
        gets();
        without();
        CHECK.end();
    }

    private static void due(String call, long got, long want) {
        CHECK.due(call, got, want);
    }

    private static void needs() {
        due("without a wall", new PaperLayers().needs(0), PaperLayers.UNKNOWN);
        PaperLayers x = Check.made("w03;s20;t40;s10;r00;s00");
        int[] want = {5, 8, 8, PaperLayers.NONE, PaperLayers.NONE, PaperLayers.UNKNOWN};
        for (int k = 0; k < want.length; k++) {
            due("needs " + k, x.needs(k), want[k]);
        }
        due("below", x.needs(-1), PaperLayers.UNKNOWN);
        due("warm is as it was", x.many(1), 0);
        PaperLayers damp = Check.made("w09;t90;s00");
        due("19 is just warm enough", damp.needs(0), 19);
        PaperLayers dry = Check.made("w90;s00;s00");
        due("0 is enough", dry.needs(1), 0);
        PaperLayers most = Check.made("w09;s00;t90");
        due("by a trellis of 9", most.needs(1), 19);
    }

    private static void gets() {
        due("without a wall", new PaperLayers().gets(9), PaperLayers.STATE);
        due("outside comes first", new PaperLayers().gets(10), PaperLayers.OUTSIDE);
        PaperLayers x = Check.made("w01;s01;s12;s22;s33;s41;s51");
        int[] want = {-9, 1, 3, -9, -9};
        for (int v = 0; v < want.length; v++) {
            due("gets " + v, x.gets(v), want[v]);
        }
        due("below", x.gets(-1), PaperLayers.OUTSIDE);
        due("above", x.gets(10), PaperLayers.OUTSIDE);
        due("red is not heard", Check.made("w90;r07;s07").gets(7), PaperLayers.NONE);
        due("advice 0 by 0", Check.made("w90;s00;s07").gets(0), 0);
        due("as warm as may be needed", Check.made("w09;t96;s07").gets(6), 19);
    }

    private static void without() {
        due("without a wall", new PaperLayers().without(9), PaperLayers.STATE);
        due("outside comes first", new PaperLayers().without(10), PaperLayers.OUTSIDE);
        PaperLayers x = Check.made("w90;s01;s02;s01;s02;r03;s03");
        due("none to be taken out", x.without(1), 0);
        due("of several the least", x.without(2), 1);
        due("all above and the red one", x.without(3), 31);
        due("none does", x.without(4), PaperLayers.NONE);
        due("below", x.without(-1), PaperLayers.OUTSIDE);
        due("above", x.without(10), PaperLayers.OUTSIDE);
        due("layers are as they were", x.many(0), 6);
        due("heard as it was", x.heard(), 15);
        due("one that holds is taken out", Check.made("w30;s90;s02").without(2), 1);
        due("a red one is taken out", Check.made("w90;s01;s01;r00;s02;s02;s02").without(2), 4);
        due("one of 8, not two of 3", Check.made("w50;s01;s01;s02;s92;s02;s02").without(2), 8);
        due("too damp for all", Check.made("w09;s01;s02").without(2), PaperLayers.NONE);
        due("red alone", Check.made("w90;r01;r02").without(2), PaperLayers.NONE);
        due("all but the last", Check.made("w90;s91;s92;t93;r04;r95;s06").without(6), 31);
        due("warm as it is", Check.made("w10;s01;s12;s22;s22").without(2), 1);
    }
}
