import java.util.ArrayList;
import java.util.List;
import java.util.function.Supplier;
import java.util.function.ToLongFunction;

/**
 * Asks calls that are refused, or come to a fault: what they answer, what fault() tells behind them,
 * and that nothing else has changed. For the last, an object that was asked is compared with a twin,
 * made by the same calls, that was not: to tell one object twice would take more than its 512 calls.
 */
final class Refusals {
    /** A call with one of its numbers left open. */
    interface Open {
        long of(PaperLayers x, int v);
    }

    private static final int SIZE = 4;

    private final Check check;
    private final String state;
    private final Supplier<PaperLayers> make;

    Refusals(Check check, String state, Supplier<PaperLayers> make) {
        this.check = check;
        this.state = state;
        this.make = make;
    }

    /** A refusal of a call that names no faults: fault() tells what it told. */
    void plain(String sentence, long due, ToLongFunction<PaperLayers> call) {
        ask(sentence, due, 0, 0, call);
        ask(sentence, due, SIZE, SIZE, call);
    }

    /** A refusal of a call that names faults: fault() tells 0. */
    void naming(String sentence, long due, ToLongFunction<PaperLayers> call) {
        ask(sentence, due, 0, 0, call);
        ask(sentence, due, SIZE, 0, call);
    }

    /** A call that comes to a fault. */
    void fault(String sentence, int fault, ToLongFunction<PaperLayers> call) {
        ask(sentence, -10 - fault, 0, fault, call);
        ask(sentence, -10 - fault, SIZE, fault, call);
    }

    /** A call that answers a long and comes to a fault. */
    void lost(String sentence, int fault, ToLongFunction<PaperLayers> call) {
        ask(sentence, PaperLayers.LOST, 0, fault, call);
        ask(sentence, PaperLayers.LOST, SIZE, fault, call);
    }

    /** A number that is least .. most: the first beyond on both sides, and the farthest, are refused. */
    void range(String sentence, long due, int least, int most, Open call) {
        for (int v : beyond(least, most)) {
            plain(sentence + ": " + v, due, x -> call.of(x, v));
        }
        taken(sentence, due, least, most, call);
    }

    /** The same, of a call that names faults. */
    void rangeNaming(String sentence, long due, int least, int most, Open call) {
        for (int v : beyond(least, most)) {
            naming(sentence + ": " + v, due, x -> call.of(x, v));
        }
        taken(sentence, due, least, most, call);
    }

    private static int[] beyond(int least, int most) {
        return new int[] {least - 1, most + 1, Integer.MIN_VALUE, Integer.MAX_VALUE};
    }

    private void taken(String sentence, long due, int least, int most, Open call) {
        for (int v : new int[] {least, most}) {
            check.isTrue(state + ", " + sentence + ": " + v + " is as told", call.of(make.get(), v) != due);
        }
    }

    private void ask(String sentence, long due, int faultAhead, int faultBehind, ToLongFunction<PaperLayers> call) {
        PaperLayers asked = made(faultAhead);
        PaperLayers twin = made(faultAhead);
        String what = state + ", fault " + faultAhead + " ahead, " + sentence;
        check.due(what, call.applyAsLong(asked), due);
        check.due(what + ": fault() behind it", asked.fault(), faultBehind);
        check.isTrue(what + ": nothing has changed", told(asked).equals(told(twin)));
    }

    private PaperLayers made(int faultAhead) {
        PaperLayers x = make.get();
        // neither changes more than fault(): the one is a fault, the other a refusal of a call that names faults
        x.sheet(faultAhead == SIZE ? 0 : 4, 0, -1);
        check.due("fault() ahead", x.fault(), faultAhead);
        return x;
    }

    /** All that can be asked of an object but fault(), which the asking changes. */
    private static List<Long> told(PaperLayers x) {
        List<Long> all = new ArrayList<>();
        all.add((long) x.trace());
        for (int what = 0; what < 5; what++) {
            all.add((long) x.many(what));
        }
        for (int k = 0; k < 6; k++) {
            for (int what = 0; what < 6; what++) {
                all.add((long) x.ofLayer(k, what));
            }
        }
        tellReadings(x, all);
        for (int k = 0; k < 4; k++) {
            tellSheet(x, k, all);
        }
        return all;
    }

    /** Readings can't be read, only what they leave possible: with all of them, and each time one less. */
    private static void tellReadings(PaperLayers x, List<Long> all) {
        int layers = x.many(0);
        for (int left = x.many(4); left >= 0; left--) {
            for (int k = 0; k < layers; k++) {
                all.add((long) x.holds(k));
                all.add((long) x.advices(k));
                all.add((long) x.kinds(k));
            }
            all.add((long) x.back(left > 0 ? 1 : 0));
        }
    }

    private static void tellSheet(PaperLayers x, int k, List<Long> all) {
        for (int lane = 0; lane < 3; lane++) {
            for (int i = 0; i <= 60; i++) {
                all.add(x.cell(k, i, lane));
                if (x.fault() != 0) {
                    all.add((long) x.fault());
                    break;
                }
            }
        }
    }
}
