/** Objects that the tests of edges start from, each made by the same calls every time. */
final class States {
    static final String TEXT = "w71;s24;t34;s51;r17";
    private static final String SIX = "w90;s01;t12;s23;s34;t45;s51";

    private States() {
    }

    /** No wall. Sheet 0 has a text as bytes, 1 days as shorts, 2 numbers as ints, 3 nothing. */
    static PaperLayers bare() {
        PaperLayers x = new PaperLayers();
        Check.lay(x, 0, 0, TEXT);
        Check.layNumbers(x, 1, 1, 3, 5, 0, 20);
        Check.layNumbers(x, 2, 2, 0, 9, 70000, -1, 5);
        return x;
    }

    /** Four layers, of which three are heard, three readings that are so, and a trace. */
    static PaperLayers papered() {
        PaperLayers x = bare();
        x.wall(0, 0, 0, TEXT.length());
        x.reading(7, 1, 4);
        x.reading(3, 1, 4);
        x.reading(0, 1, PaperLayers.NONE);
        x.tell(3);
        return x;
    }

    /** Six layers, all heard, and eight readings that are so. */
    static PaperLayers full() {
        PaperLayers x = bare();
        Check.lay(x, 0, 0, SIX);
        x.wall(0, 0, 0, SIX.length());
        for (int r = 0; r < 8; r++) {
            x.reading(r, 0, x.counsel(r, 0));
        }
        return x;
    }

    /** One layer alone, which is heard. */
    static PaperLayers lone() {
        PaperLayers x = bare();
        Check.lay(x, 0, 0, "w50;s13;s24");
        x.wall(0, 0, 0, 11);
        x.peel();
        return x;
    }

    /** As papered, with pairs of days on sheet 2 as ints. */
    static PaperLayers withDays(int... pairs) {
        PaperLayers x = papered();
        Check.layNumbers(x, 2, 2, pairs);
        return x;
    }
}
