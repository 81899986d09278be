/** Promises 16 to 22: reading, back, orders, holds, advices, kinds, odds. */
public final class ReadingsTest {
    private static final Check CHECK = new Check();

    public static void main(String[] args) {
        reading();
        back();
        ordersWithoutReadings();
        ordersByReadings();
        ordersRefused();
        fitting();
        readingsStayAsLayersGo();
        odds();
        CHECK.end();
    }

    private static void due(String call, long got, long want) {
        CHECK.due(call, got, want);
    }

    private static void reading() {
        due("without a wall", new PaperLayers().reading(20, 9, -9), PaperLayers.STATE);
        due("outside comes first", new PaperLayers().reading(21, 0, 0), PaperLayers.OUTSIDE);
        PaperLayers x = Check.made("w90;s01;s02");
        int[][] outside = {{-1, 0, 0}, {21, 0, 0}, {0, -1, 0}, {0, 10, 0}, {0, 0, 10}, {0, 0, -1}, {0, 0, -8}, {0, 0, -10}};
        for (int[] r : outside) {
            due("reading " + r[0] + " " + r[1] + " " + r[2], x.reading(r[0], r[1], r[2]), PaperLayers.OUTSIDE);
        }
        int[] counselled = {0, 9, PaperLayers.NONE, 1, 2, 3, 4, 5};
        for (int number = 0; number < 8; number++) {
            due("number " + number, x.reading(20, 9, counselled[number]), number);
            due("many", x.many(4), number + 1);
        }
        due("full", x.reading(0, 0, 0), PaperLayers.FULL);
        due("outside ahead of full", x.reading(0, 0, 10), PaperLayers.OUTSIDE);
        due("still eight", x.many(4), 8);
    }

    private static void back() {
        PaperLayers x = new PaperLayers();
        due("none of none", x.back(0), 0);
        due("one of none", x.back(1), PaperLayers.OUTSIDE);
        Check.wall(x, "w90;s01;s02");
        x.reading(9, 0, 1);
        x.reading(9, 0, 2);
        x.reading(9, 0, 3);
        due("below", x.back(-1), PaperLayers.OUTSIDE);
        due("too many", x.back(4), PaperLayers.OUTSIDE);
        due("none", x.back(0), 3);
        due("no order by all three", x.orders(-1), 0);
        due("the last two", x.back(2), 1);
        due("the first is left", x.orders(-1), 1);
        due("numbered anew", x.reading(9, 0, 1), 1);
        due("all", x.back(2), 0);
    }

    private static void ordersWithoutReadings() {
        int[] all = {0, 1, 2, 6, 24, 120, 720};
        String text = "w90;s00;s00";
        for (int count = 2; count <= 6; count++) {
            PaperLayers x = Check.made(text);
            due("all orders of " + count, x.orders(-1), all[count]);
            for (int place = 0; place < 6; place++) {
                due("place " + place + " of " + count, x.orders(place), place < count ? place : PaperLayers.NONE);
            }
            text = text + ";t11";
        }
        PaperLayers one = Check.made("w90;s00;s00");
        one.peel();
        due("orders of one", one.orders(-1), 1);
        due("its place 0", one.orders(0), 0);
        due("no place 1", one.orders(1), PaperLayers.NONE);
    }

    private static void ordersByReadings() {
        PaperLayers x = Check.made("w90;s01;s02;s03;s04");
        x.reading(9, 0, 3);
        due("the third on top", x.orders(-1), 6);
        int[] want = {2, 0, 1, 3, -9, -9};
        for (int place = 0; place < 6; place++) {
            due("place " + place, x.orders(place), want[place]);
        }
        PaperLayers y = Check.made("w90;s11;s22;s33;s44;s55;s66");
        y.reading(6, 0, 6);
        y.reading(5, 0, PaperLayers.NONE);
        due("the last on top", y.orders(-1), 120);
        due("it is 5", y.orders(0), 5);
        due("then 0", y.orders(1), 0);
        PaperLayers z = Check.made("w90;s61;r02;s02");
        z.reading(6, 0, 1);
        z.reading(5, 0, PaperLayers.NONE);
        due("one on top of red, or of all", z.orders(-1), 2);
        due("z's first", z.orders(1), 1);
        z.reading(7, 0, 2);
        due("none", z.orders(-1), 0);
        due("no such order", z.orders(0), PaperLayers.NONE);
        due("all is as it lay", z.ofLayer(0, 1), 6);
        PaperLayers only = Check.made("w90;s31;s22;s13;s04");
        only.reading(9, 0, 4);
        only.reading(0, 0, 4);
        due("0 hold on top", only.orders(-1), 6);
        due("the last of four on top", only.orders(0), 3);
    }

    private static void ordersRefused() {
        due("without a wall", new PaperLayers().orders(5), PaperLayers.STATE);
        due("outside comes first", new PaperLayers().orders(6), PaperLayers.OUTSIDE);
        due("below", Check.made("w90;s01;s02").orders(-2), PaperLayers.OUTSIDE);
        due("above", Check.made("w90;s01;s02").orders(6), PaperLayers.OUTSIDE);
    }

    private static void fitting() {
        due("holds without a wall", new PaperLayers().holds(0), PaperLayers.UNKNOWN);
        due("advices without a wall", new PaperLayers().advices(0), PaperLayers.UNKNOWN);
        due("kinds without a wall", new PaperLayers().kinds(0), PaperLayers.UNKNOWN);
        PaperLayers x = Check.made("w00;s31;t22;s42");
        for (int k = 0; k < 3; k++) {
            due("all holds of " + k, x.holds(k), 1023);
            due("all advices of " + k, x.advices(k), 1023);
            due("all kinds of " + k, x.kinds(k), 7);
        }
        x.reading(3, 0, 1);
        due("holds 0 by one", x.holds(0), 15);
        due("advices 0 by one", x.advices(0), 2);
        due("kinds 0 by one: a trellis would hold", x.kinds(0), 1);
        due("holds 1 by one", x.holds(1), 1023);
        due("kinds 1 by one", x.kinds(1), 7);
        x.reading(5, 1, 2);
        due("holds 0 by two", x.holds(0), 15);
        due("holds 1 by two", x.holds(1), 15);
        due("advices 1 by two", x.advices(1), 4);
        due("kinds 1 by two: not red", x.kinds(1), 3);
        due("holds 2 by two", x.holds(2), 16);
        due("advices 2 by two", x.advices(2), 4);
        due("kinds 2 by two", x.kinds(2), 1);
        x.reading(0, 0, 9);
        due("no hold", x.holds(0), 0);
        due("no advice", x.advices(0), 0);
        due("no kind", x.kinds(0), 0);
        due("holds below", x.holds(-1), PaperLayers.UNKNOWN);
        due("advices above", x.advices(3), PaperLayers.UNKNOWN);
        due("kinds above", x.kinds(3), PaperLayers.UNKNOWN);
        due("hold as it was", x.ofLayer(0, 1), 3);
        due("advice as it was", x.ofLayer(0, 2), 1);
        due("kind as it was", x.ofLayer(1, 0), 1);
    }

    private static void readingsStayAsLayersGo() {
        PaperLayers x = Check.made("w90;s01;s02");
        x.reading(9, 0, 5);
        due("no order", x.orders(-1), 0);
        x.putUp(0, 0, 5);
        due("by a paper put up", x.orders(-1), 2);
        due("it on top", x.orders(0), 0);
        x.paste(0, 9);
        due("its holds", x.holds(0), 1023);
        x.peel();
        due("and peeled", x.orders(-1), 0);
        due("heat does not matter", x.heat(0), 9);
        due("nor then", x.advices(0), 32);
    }

    private static void odds() {
        due("without a wall", new PaperLayers().odds(0, 0), PaperLayers.LOST);
        PaperLayers x = Check.made("w00;s00;t50;s01;s90;r02;s02");
        long[][] want = {{1, 1}, {5, 7}, {5, 7}, {4, 7}, {0, 1}, {0, 1}};
        for (int k = 0; k < want.length; k++) {
            due("upper of " + k, x.odds(k, 0), want[k][0]);
            due("lower of " + k, x.odds(k, 1), want[k][1]);
        }
        x.wet(5);
        due("upper by damp", x.odds(0, 0), 16);
        due("lower by damp", x.odds(0, 1), 21);
        x.wet(7);
        due("upper in least terms", x.odds(0, 0), 2);
        due("lower in least terms", x.odds(0, 1), 3);
        due("no layer", x.odds(6, 0), PaperLayers.LOST);
        due("no layer below", x.odds(-1, 0), PaperLayers.LOST);
        due("which below", x.odds(0, -1), PaperLayers.LOST);
        due("which above", x.odds(0, 2), PaperLayers.LOST);
        due("LOST", PaperLayers.LOST, Long.MIN_VALUE);
    }
}
