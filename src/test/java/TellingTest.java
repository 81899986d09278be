/** Promises 28 to 31: tell, stroke, as, trace. */
public final class TellingTest {
    private static final Check CHECK = new Check();

    public static void main(String[] args) {
        tell();
        stroke();
        traceWraps();
        as();
        CHECK.end();
    }

    private static void due(String call, long got, long want) {
        CHECK.due(call, got, want);
    }

    private static int traced(int before, int... numbers) {
        int trace = before;
        for (int number : numbers) {
            trace = trace * 31 + number;
        }
        return trace;
    }

    private static void tell() {
        due("without a wall", new PaperLayers().tell(0), PaperLayers.UNKNOWN);
        PaperLayers x = Check.made("w00;s41;t52;r63");
        due("a stripe", x.tell(0), 4);
        int trace = traced(0, 1);
        due("its trace", x.trace(), trace);
        due("a trellis", x.tell(1), 105);
        trace = traced(trace, 2, 1);
        due("its trace", x.trace(), trace);
        due("a red one", x.tell(2), 112);
        trace = traced(trace, 3, 2, 1, 1);
        due("its trace", x.trace(), trace);
        due("no layer", x.tell(3), PaperLayers.UNKNOWN);
        due("no layer below", x.tell(-1), PaperLayers.UNKNOWN);
        due("trace as it was", x.trace(), trace);
    }

    private static void stroke() {
        due("without a wall", new PaperLayers().stroke(0), PaperLayers.UNKNOWN);
        PaperLayers x = Check.made("w00;s41;t52;r63");
        due("a stripe", x.stroke(0), 1);
        due("its trace", x.trace(), 4);
        due("a trellis", x.stroke(1), 2);
        due("its trace", x.trace(), traced(4, 4));
        due("a red one", x.stroke(2), 10);
        due("its trace", x.trace(), traced(4, 4, 5));
        due("no layer", x.stroke(3), PaperLayers.UNKNOWN);
        due("no layer below", x.stroke(-1), PaperLayers.UNKNOWN);
        due("trace as it was", x.trace(), traced(4, 4, 5));
    }

    private static void traceWraps() {
        PaperLayers x = Check.made("w00;r00;r00");
        int trace = 0;
        boolean wrapped = false;
        for (int round = 0; round < 20; round++) {
            x.tell(0);
            trace = traced(trace, 3, 2, 1, 1);
            wrapped |= trace < 0;
            due("trace in round " + round, x.trace(), trace);
        }
        CHECK.isTrue("it wrapped", wrapped);
    }

    private static void as() {
        due("without a wall", new PaperLayers().as(0, 0), PaperLayers.UNKNOWN);
        PaperLayers x = Check.made("w00;s41;t52;r63");
        for (int k = 0; k < 3; k++) {
            for (int kind = 0; kind < 3; kind++) {
                due("layer " + k + " as " + kind, x.as(k, kind), k >= kind ? 1 : -12);
                due("fault of that", x.fault(), k >= kind ? 0 : 2);
            }
        }
        due("no layer comes first", x.as(3, 3), PaperLayers.UNKNOWN);
        due("no layer below", x.as(-1, 0), PaperLayers.UNKNOWN);
        due("kind above", x.as(0, 3), PaperLayers.OUTSIDE);
        due("kind below", x.as(2, -1), PaperLayers.OUTSIDE);
        due("it leaves no trace", x.trace(), 0);
    }
}
