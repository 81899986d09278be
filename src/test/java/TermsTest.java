import java.util.LinkedHashMap;
import java.util.Map;
import java.util.function.ToLongFunction;

/**
 * "Terms": the order of refusals and faults, what they change and what fault() tells behind them.
 * Each call here has two reasons or more to be refused; the one that is told first must be answered.
 */
public final class TermsTest {
    private static final int UNKNOWN = PaperLayers.UNKNOWN, OUTSIDE = PaperLayers.OUTSIDE, STATE = PaperLayers.STATE,
        FULL = PaperLayers.FULL;
    private static final int NULL = 1, CAST = 2, INDEX = 3, SIZE = 4;
    private static final Check CHECK = new Check();
    private static final Refusals BARE = new Refusals(CHECK, "no wall", States::bare);
    private static final Refusals PAPERED = new Refusals(CHECK, "four layers", States::papered);
    private static final Refusals SIX = new Refusals(CHECK, "six layers, eight readings", States::full);

    public static void main(String[] args) {
        orderInWall();
        orderInDays();
        orderOfRefusals();
        orderInSheets();
        indexOfNoCells();
        faultsInNumbers();
        faultBehindAnswers();
        CHECK.end();
    }

    private static void orderInWall() {
        PAPERED.naming("wall: UNKNOWN ahead of OUTSIDE", UNKNOWN, x -> x.wall(4, 3, 0, 11));
        PAPERED.naming("wall: UNKNOWN ahead of SIZE", UNKNOWN, x -> x.wall(-1, 0, 0, -1));
        PAPERED.naming("wall: OUTSIDE ahead of CAST, SIZE", OUTSIDE, x -> x.wall(0, 3, 0, -1));
        PAPERED.naming("wall: OUTSIDE ahead of NULL, INDEX", OUTSIDE, x -> x.wall(3, -1, -1, 1));
        PAPERED.fault("wall: CAST ahead of SIZE", CAST, x -> x.wall(0, 1, 0, -1));
        PAPERED.fault("wall: CAST ahead of INDEX", CAST, x -> x.wall(0, 2, 0, 61));
        PAPERED.fault("wall: nothing is no CAST, ahead of SIZE", NULL, x -> x.wall(3, 0, 0, -1));
        PAPERED.fault("wall: NULL ahead of INDEX", NULL, x -> x.wall(3, 2, -1, 1));
        PAPERED.fault("wall: SIZE ahead of INDEX", SIZE, x -> x.wall(0, 0, -1, -1));
        PAPERED.fault("wall: SIZE ahead of INDEX beyond", SIZE, x -> x.wall(0, 0, 61, Integer.MIN_VALUE));
        PAPERED.fault("wall: INDEX ahead of the FIRST FAULT", INDEX, x -> x.wall(0, 0, 1, 19));
        BARE.fault("wall: INDEX, and no WALL yet", INDEX, x -> x.wall(0, 0, 0, 20));
    }

    private static void orderInDays() {
        BARE.naming("days: UNKNOWN ahead of OUTSIDE, STATE", UNKNOWN, x -> x.days(4, 3, 0, 21, 5));
        BARE.naming("days: OUTSIDE lane ahead of NULL, STATE", OUTSIDE, x -> x.days(3, 3, 0, 1, 0));
        BARE.naming("days: OUTSIDE n ahead of CAST, STATE", OUTSIDE, x -> x.days(2, 1, 0, 21, 0));
        BARE.naming("days: OUTSIDE n below 0 is no SIZE, ahead of INDEX", OUTSIDE, x -> x.days(2, 2, -1, -1, 0));
        BARE.naming("days: OUTSIDE what ahead of INDEX, STATE", OUTSIDE, x -> x.days(2, 2, 9, 1, 5));
        BARE.fault("days: CAST ahead of INDEX, STATE", CAST, x -> x.days(2, 0, 9, 1, 0));
        BARE.fault("days: NULL ahead of INDEX, STATE", NULL, x -> x.days(3, 0, 9, 1, 0));
        BARE.fault("days: INDEX ahead of STATE", INDEX, x -> x.days(2, 2, 0, 3, 0));
        BARE.naming("days: STATE ahead of a pair's OUTSIDE", STATE, x -> x.days(2, 2, 2, 1, 0));
        BARE.naming("days: STATE of no pairs", STATE, x -> x.days(2, 2, 0, 0, 1));
        PAPERED.fault("days: INDEX ahead of a pair's OUTSIDE", INDEX, x -> x.days(2, 2, 2, 2, 0));
        PAPERED.naming("days: a pair's OUTSIDE", OUTSIDE, x -> x.days(2, 2, 2, 1, 0));
    }

    private static void orderOfRefusals() {
        PAPERED.plain("ofLayer: UNKNOWN ahead of OUTSIDE", UNKNOWN, x -> x.ofLayer(4, 6));
        BARE.plain("heat: OUTSIDE ahead of STATE", OUTSIDE, x -> x.heat(21));
        BARE.plain("wet: OUTSIDE ahead of STATE", OUTSIDE, x -> x.wet(10));
        BARE.plain("paste: UNKNOWN ahead of OUTSIDE", UNKNOWN, x -> x.paste(0, 10));
        BARE.plain("counsel: OUTSIDE warm ahead of STATE", OUTSIDE, x -> x.counsel(21, 0));
        BARE.plain("counsel: OUTSIDE damp ahead of STATE", OUTSIDE, x -> x.counsel(0, 10));
        BARE.plain("clash: OUTSIDE ahead of STATE", OUTSIDE, x -> x.clash(2));
        BARE.plain("putUp: OUTSIDE kind ahead of STATE", OUTSIDE, x -> x.putUp(3, 0, 0));
        BARE.plain("putUp: OUTSIDE hold ahead of STATE", OUTSIDE, x -> x.putUp(0, 10, 0));
        BARE.plain("putUp: OUTSIDE advice ahead of STATE", OUTSIDE, x -> x.putUp(0, 0, 10));
        SIX.plain("putUp: OUTSIDE kind ahead of FULL", OUTSIDE, x -> x.putUp(-1, 0, 0));
        SIX.plain("putUp: OUTSIDE hold ahead of FULL", OUTSIDE, x -> x.putUp(0, -1, 0));
        SIX.plain("putUp: OUTSIDE advice ahead of FULL", OUTSIDE, x -> x.putUp(0, 0, -1));
        SIX.plain("putUp: FULL", FULL, x -> x.putUp(0, 0, 0));
        BARE.plain("gets: OUTSIDE ahead of STATE", OUTSIDE, x -> x.gets(10));
        BARE.plain("without: OUTSIDE ahead of STATE", OUTSIDE, x -> x.without(-1));
        BARE.plain("reading: OUTSIDE ahead of STATE", OUTSIDE, x -> x.reading(21, 0, 0));
        SIX.plain("reading: OUTSIDE warm ahead of FULL", OUTSIDE, x -> x.reading(21, 0, 0));
        SIX.plain("reading: OUTSIDE damp ahead of FULL", OUTSIDE, x -> x.reading(0, 10, 0));
        SIX.plain("reading: OUTSIDE v ahead of FULL", OUTSIDE, x -> x.reading(0, 0, -1));
        SIX.plain("reading: FULL", FULL, x -> x.reading(0, 0, 0));
        BARE.plain("orders: OUTSIDE ahead of STATE", OUTSIDE, x -> x.orders(6));
        PAPERED.plain("odds: UNKNOWN and OUTSIDE are LOST alike", PaperLayers.LOST, x -> x.odds(4, 2));
    }

    private static void orderInSheets() {
        PAPERED.naming("sheet: UNKNOWN ahead of OUTSIDE", UNKNOWN, x -> x.sheet(4, 3, 61));
        PAPERED.naming("sheet: UNKNOWN ahead of SIZE", UNKNOWN, x -> x.sheet(4, 0, -1));
        PAPERED.naming("sheet: OUTSIDE lane ahead of SIZE", OUTSIDE, x -> x.sheet(0, 3, -1));
        PAPERED.naming("put: UNKNOWN ahead of INDEX", UNKNOWN, x -> x.put(4, 60, 0));
        PAPERED.fault("put: NULL ahead of INDEX", NULL, x -> x.put(3, -1, 0));
        PAPERED.lost("cell: UNKNOWN ahead of INDEX", 0, x -> x.cell(4, 60, 0));
        PAPERED.lost("cell: OUTSIDE ahead of CAST, INDEX", 0, x -> x.cell(0, 60, 3));
        PAPERED.lost("cell: OUTSIDE ahead of NULL", 0, x -> x.cell(3, 0, -1));
        PAPERED.lost("cell: CAST ahead of INDEX", CAST, x -> x.cell(0, -1, 1));
        PAPERED.lost("cell: nothing is no CAST, NULL ahead of INDEX", NULL, x -> x.cell(3, -1, 1));
        PAPERED.naming("copy: the first UNKNOWN ahead of NULL", UNKNOWN, x -> x.copy(4, 0, 3, 0, 0));
        PAPERED.naming("copy: the other UNKNOWN ahead of NULL", UNKNOWN, x -> x.copy(3, 0, -1, 0, 0));
        PAPERED.fault("copy: NULL ahead of INDEX, the first", NULL, x -> x.copy(3, -1, 0, 0, -1));
        PAPERED.fault("copy: NULL ahead of INDEX, the other", NULL, x -> x.copy(0, -1, 3, 0, -1));
        PAPERED.fault("copy: CAST ahead of INDEX", CAST, x -> x.copy(0, -1, 1, -1, -1));
        PAPERED.fault("copy: n below 0 is INDEX, not SIZE", INDEX, x -> x.copy(0, 0, 0, 0, -1));
        PAPERED.naming("as: UNKNOWN ahead of OUTSIDE", UNKNOWN, x -> x.as(4, 3));
        PAPERED.naming("as: UNKNOWN ahead of CAST", UNKNOWN, x -> x.as(-1, 2));
        PAPERED.naming("as: OUTSIDE ahead of CAST", OUTSIDE, x -> x.as(0, 3));
    }

    /** "INDEX (of cells from i on also where i is not 0 .. how many there are, if none of them is taken, too)". */
    private static void indexOfNoCells() {
        for (int i : new int[] {Integer.MIN_VALUE, -1, 20, Integer.MAX_VALUE}) {
            PAPERED.fault("wall of no cells from " + i, INDEX, x -> x.wall(0, 0, i, 0));
        }
        PAPERED.naming("wall of no cells from the first", -100, x -> x.wall(0, 0, 0, 0));
        PAPERED.naming("wall of no cells from behind the last", -100, x -> x.wall(0, 0, 19, 0));
        for (int i : new int[] {Integer.MIN_VALUE, -1, 6, Integer.MAX_VALUE}) {
            PAPERED.fault("days of no pairs from " + i, INDEX, x -> x.days(2, 2, i, 0, 0));
            PAPERED.fault("copy of no cells from " + i, INDEX, x -> x.copy(2, i, 2, 0, 0));
            PAPERED.fault("copy of no cells to " + i, INDEX, x -> x.copy(2, 0, 2, i, 0));
        }
        PAPERED.naming("days of no pairs from behind the last", 4, x -> x.days(2, 2, 5, 0, 0));
        PAPERED.naming("copy of no cells from behind the last", 0, x -> x.copy(2, 5, 2, 0, 0));
        PAPERED.naming("copy of no cells to behind the last", 0, x -> x.copy(2, 0, 2, 5, 0));
    }

    /** "it answers -10 less it (LOST, where a long is answered, as for refusals)". */
    private static void faultsInNumbers() {
        PaperLayers x = States.papered();
        CHECK.due("1 NULL", x.put(3, 0, 0), -11);
        CHECK.due("1 NULL", x.fault(), 1);
        CHECK.due("2 CAST", x.as(0, 1), -12);
        CHECK.due("2 CAST", x.fault(), 2);
        CHECK.due("3 INDEX", x.put(0, 60, 0), -13);
        CHECK.due("3 INDEX", x.fault(), 3);
        CHECK.due("4 SIZE", x.sheet(0, 0, -1), -14);
        CHECK.due("4 SIZE", x.fault(), 4);
        CHECK.due("fault() tells it as often as it is asked", x.fault(), 4);
        CHECK.due("LOST by a fault", x.cell(3, 0, 0), Long.MIN_VALUE);
        CHECK.due("LOST by a refusal", x.odds(-1, 0), Long.MIN_VALUE);
    }

    /** "The FAULT of the latest call that names one: 0: it came to none": only such calls end it. */
    private static void faultBehindAnswers() {
        Map<String, ToLongFunction<PaperLayers>> naming = new LinkedHashMap<>();
        naming.put("wall", x -> x.wall(0, 0, 0, 19));
        naming.put("wall with a FIRST FAULT", x -> x.wall(0, 0, 0, 3));
        naming.put("days", x -> x.days(1, 1, 0, 2, 0));
        naming.put("sheet", x -> x.sheet(3, 0, 1));
        naming.put("put", x -> x.put(0, 0, 0));
        naming.put("cell", x -> x.cell(0, 0, 0));
        naming.put("copy", x -> x.copy(0, 0, 0, 1, 1));
        naming.put("as", x -> x.as(0, 0));
        naming.forEach((name, call) -> behind(name, call, 0));

        Map<String, ToLongFunction<PaperLayers>> others = new LinkedHashMap<>();
        others.put("ofLayer", x -> x.ofLayer(0, 0));
        others.put("heat", x -> x.heat(1));
        others.put("wet", x -> x.wet(1));
        others.put("paste", x -> x.paste(0, 1));
        others.put("heard", x -> x.heard());
        others.put("counsel", x -> x.counsel(1, 1));
        others.put("clash", x -> x.clash(0));
        others.put("putUp", x -> x.putUp(0, 0, 0));
        others.put("peel", x -> x.peel());
        others.put("needs", x -> x.needs(0));
        others.put("gets", x -> x.gets(0));
        others.put("without", x -> x.without(0));
        others.put("reading", x -> x.reading(0, 0, 0));
        others.put("back", x -> x.back(1));
        others.put("orders", x -> x.orders(-1));
        others.put("holds", x -> x.holds(0));
        others.put("advices", x -> x.advices(0));
        others.put("kinds", x -> x.kinds(0));
        others.put("odds", x -> x.odds(0, 0));
        others.put("lose", x -> x.lose(0));
        others.put("tell", x -> x.tell(0));
        others.put("stroke", x -> x.stroke(0));
        others.put("trace", x -> x.trace());
        others.put("many", x -> x.many(0));
        others.forEach((name, call) -> behind(name, call, SIZE));
    }

    private static void behind(String name, ToLongFunction<PaperLayers> call, int due) {
        PaperLayers x = States.papered();
        x.sheet(0, 0, -1);
        call.applyAsLong(x);
        CHECK.due("fault() behind " + name + " that is answered", x.fault(), due);
    }
}
