import java.lang.reflect.InvocationTargetException;
import java.lang.reflect.Method;
import java.util.ArrayList;
import java.util.Arrays;
import java.util.HashMap;
import java.util.List;
import java.util.Map;

/**
 * Every call with each of its numbers at its edges and beside them, in all combinations, asked of the
 * class and of PlainModel: so that of several reasons to refuse a call the one told first is answered.
 */
public final class GridTest {
    private static final int MIN = Integer.MIN_VALUE, MAX = Integer.MAX_VALUE;
    private static final int[] SHEET = {MIN, -1, 0, 1, 2, 3, 4, MAX}, LANE = {MIN, -1, 0, 1, 2, 3, MAX};
    private static final int[] LAYER = {MIN, -1, 0, 1, 2, 3, 4, 5, 6, MAX}, KIND = LANE;
    private static final int[] DIGIT = {MIN, -10, -9, -8, -1, 0, 1, 9, 10, MAX};
    private static final int[] WARM = {MIN, -1, 0, 1, 9, 10, 20, 21, MAX};
    private static final int[] PLACE = {MIN, -1, 0, 1, 3, 4, 5, 26, 27, 28, 60, MAX};
    private static final int[] PAIRS = {MIN, -1, 0, 1, 2, 3, 13, 14, 20, 21, MAX};
    private static final int[] WHAT = {MIN, -2, -1, 0, 1, 2, 3, 4, 5, 6, MAX};
    private static final int[] ROW = {MIN, -1, 0, 1, 59, 60, 61, MAX};
    private static final int[] NUMBER = {MIN, -32769, -32768, -129, -128, -1, 0, 127, 128, 32767, 32768, MAX};
    /** Calls that change more than fault(): behind one that is answered, both objects are made anew. */
    private static final List<String> CHANGING = List.of("wall", "heat", "wet", "paste", "putUp", "peel", "reading", "back",
        "sheet", "lose", "put", "copy", "tell", "stroke");
    private static final int MOST_CALLS = 512, CALLS_OF_TELLING = 160;

    private static final class Call {
        final String name;
        final int[] args;

        Call(String name, int... args) {
            this.name = name;
            this.args = args;
        }
    }

    private final Check check = new Check();
    private final Map<String, Method> methods = new HashMap<>();
    private List<Call> start;
    private PaperLayers x;
    private PlainModel model;
    private int calls;

    public static void main(String[] args) {
        GridTest test = new GridTest();
        for (List<Call> state : states()) {
            test.inState(state);
        }
        test.check.end();
    }

    private static void lay(List<Call> state, int sheet, int lane, int... numbers) {
        state.add(new Call("sheet", sheet, lane, numbers.length));
        for (int i = 0; i < numbers.length; i++) {
            state.add(new Call("put", sheet, i, numbers[i]));
        }
    }

    private static List<Call> sheets(String text) {
        List<Call> state = new ArrayList<>();
        lay(state, 0, 0, text.chars().toArray());
        lay(state, 1, 1, 3, 5, 0, 20);
        lay(state, 2, 2, 0, 20, 2, 0, 3);
        return state;
    }

    private static List<Call> papered(String text) {
        List<Call> state = sheets(text);
        state.add(new Call("wall", 0, 0, 0, text.length()));
        return state;
    }

    private static List<List<Call>> states() {
        List<Call> lone = papered("w50;s13;s24");
        lone.add(new Call("peel"));
        List<Call> some = papered("w71;s24;t34;s51;r17");
        some.add(new Call("reading", 7, 1, 4));
        some.add(new Call("reading", 3, 1, 4));
        List<Call> full = papered("w90;s01;t12;s23;s34;t45;s51");
        for (int r = 0; r < 8; r++) {
            full.add(new Call("reading", r, 0, 1));
        }
        return List.of(new ArrayList<>(), sheets("w90;s01;t12;s23;s34;t45;s51"), lone, some, full);
    }

    private void inState(List<Call> state) {
        start = state;
        beginAnew();
        wallAndDays();
        layersAndWarmth();
        sheetsAndCells();
    }

    private void wallAndDays() {
        grid("wall", SHEET, LANE, PLACE, PLACE);
        grid("days", new int[] {-1, 0, 1, 2, 3, 4}, new int[] {-1, 0, 1, 2, 3}, PLACE, PAIRS, new int[] {-1, 0, 1, 2, 3, 4, 5});
    }

    private void layersAndWarmth() {
        grid("ofLayer", LAYER, WHAT);
        grid("heat", WARM);
        grid("wet", DIGIT);
        grid("paste", LAYER, DIGIT);
        grid("heard");
        grid("counsel", WARM, DIGIT);
        grid("clash", WHAT);
        grid("putUp", KIND, DIGIT, DIGIT);
        grid("peel");
        grid("needs", LAYER);
        grid("gets", DIGIT);
        grid("without", DIGIT);
        grid("reading", WARM, DIGIT, DIGIT);
        grid("back", new int[] {MIN, -1, 0, 1, 2, 3, 7, 8, 9, MAX});
        grid("orders", WHAT);
        grid("holds", LAYER);
        grid("advices", LAYER);
        grid("kinds", LAYER);
        grid("odds", LAYER, WHAT);
        grid("tell", LAYER);
        grid("stroke", LAYER);
        grid("as", LAYER, KIND);
        grid("trace");
        grid("fault");
        grid("many", WHAT);
    }

    private void sheetsAndCells() {
        grid("sheet", SHEET, LANE, ROW);
        grid("lose", SHEET);
        grid("put", SHEET, PLACE, NUMBER);
        grid("cell", SHEET, PLACE, LANE);
        int[] place = {MIN, -1, 0, 1, 4, 5, 6, MAX};
        grid("copy", new int[] {-1, 0, 1, 2, 3, 4}, place, new int[] {-1, 0, 1, 2, 3, 4}, place, place);
    }

    private void grid(String name, int[]... edges) {
        combine(name, edges, new int[edges.length], 0);
    }

    private void combine(String name, int[][] edges, int[] args, int chosen) {
        if (chosen == args.length) {
            same(new Call(name, args.clone()));
            return;
        }
        for (int v : edges[chosen]) {
            args[chosen] = v;
            combine(name, edges, args, chosen + 1);
        }
    }

    private void same(Call call) {
        if (calls + CALLS_OF_TELLING + 2 > MOST_CALLS) {
            endState();
        }
        long got = ask(call);
        check.due("fault() behind " + call.name + " " + Arrays.toString(call.args), x.fault(), model.fault());
        calls++;
        if (got >= 0 && CHANGING.contains(call.name)) {
            endState();
        }
    }

    private long ask(Call call) {
        long got = asked(x, call);
        calls++;
        check.due(call.name + " " + Arrays.toString(call.args), got, asked(model, call));
        return got;
    }

    private void beginAnew() {
        x = new PaperLayers();
        model = new PlainModel();
        calls = 0;
        for (Call call : start) {
            ask(call);
        }
    }

    /** What earlier calls have left must agree, too. */
    private void endState() {
        ask(new Call("trace"));
        for (int what = 0; what < 5; what++) {
            ask(new Call("many", what));
        }
        for (int k = 0; k < 6; k++) {
            for (int what = 0; what < 3; what++) {
                ask(new Call("ofLayer", k, what));
            }
            ask(new Call("holds", k));
        }
        for (int k = 0; k < 4; k++) {
            for (int lane = 0; lane < 3; lane++) {
                for (int i : new int[] {0, 1, 2, 3, 4, 5, 26, 27, 59}) {
                    ask(new Call("cell", k, i, lane));
                }
            }
        }
        beginAnew();
    }

    private long asked(Object object, Call call) {
        Class<?>[] types = new Class<?>[call.args.length];
        Object[] args = new Object[call.args.length];
        for (int a = 0; a < args.length; a++) {
            types[a] = int.class;
            args[a] = call.args[a];
        }
        try {
            String key = object.getClass().getName() + call.name;
            Method method = methods.get(key);
            if (method == null) {
                method = object.getClass().getDeclaredMethod(call.name, types);
                method.setAccessible(true);
                methods.put(key, method);
            }
            return ((Number) method.invoke(object, args)).longValue();
        } catch (NoSuchMethodException | IllegalAccessException | InvocationTargetException e) {
            throw new IllegalStateException(call.name + " " + Arrays.toString(call.args), e);
        }
    }
}
