/** What the tests of the project share: comparing answers, and laying texts on sheets. */
final class Check {
    private int wrong;
    private int asked;

    void due(String call, long got, long want) {
        asked++;
        if (got != want) {
            wrong++;
            System.out.println(call + " answered " + got + ", due is " + want);
        }
    }

    void isTrue(String what, boolean holds) {
        due(what, holds ? 1 : 0, 1);
    }

    /** Ends the test: exit code 1 if an answer was wrong, or if nothing was asked. */
    void end() {
        System.out.println(asked + " answers, " + wrong + " wrong");
        if (wrong != 0 || asked == 0) {
            System.exit(1);
        }
    }

    /** A sheet gets the codes of a text, as a row of a lane. */
    static void lay(PaperLayers x, int sheet, int lane, String text) {
        x.sheet(sheet, lane, text.length());
        for (int i = 0; i < text.length(); i++) {
            x.put(sheet, i, text.charAt(i));
        }
    }

    /** A sheet gets numbers, as a row of a lane. */
    static void layNumbers(PaperLayers x, int sheet, int lane, int... numbers) {
        x.sheet(sheet, lane, numbers.length);
        for (int i = 0; i < numbers.length; i++) {
            x.put(sheet, i, numbers[i]);
        }
    }

    /** What wall answers for a text that lies on sheet 3 as bytes. */
    static int wall(PaperLayers x, String text) {
        lay(x, 3, 0, text);
        return x.wall(3, 0, 0, text.length());
    }

    static PaperLayers made(String text) {
        PaperLayers x = new PaperLayers();
        if (wall(x, text) < 0) {
            throw new IllegalStateException("no text: " + text);
        }
        return x;
    }

    /** Acts of days, as pairs, on sheet 2 as ints. */
    static int days(PaperLayers x, int what, int... pairs) {
        layNumbers(x, 2, 2, pairs);
        return x.days(2, 2, 0, pairs.length / 2, what);
    }
}
