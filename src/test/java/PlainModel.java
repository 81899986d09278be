import java.util.ArrayList;
import java.util.List;
import java.util.TreeSet;

/**
 * The document once more, told in another way than the class does: layers are objects of real
 * kinds, sheets are real arrays, and faults are what the Java machine itself throws.
 */
final class PlainModel {
    interface Stroked {
        int[] trace();

        int advice();

        default int stroked() {
            trace()[0] = trace()[0] * 31 + 4;
            return advice();
        }
    }

    static class Stripe implements Stroked {
        final int[] trace;
        int hold;
        final int advice;

        Stripe(int[] trace, int hold, int advice) {
            this.trace = trace;
            this.hold = hold;
            this.advice = advice;
        }

        public int[] trace() {
            return trace;
        }

        public int advice() {
            return advice;
        }

        int kind() {
            return 0;
        }

        int grip() {
            return hold;
        }

        final int asStripe() {
            trace[0] = trace[0] * 31 + 1;
            return hold;
        }

        int told() {
            return asStripe();
        }
    }

    static class Trellis extends Stripe {
        Trellis(int[] trace, int hold, int advice) {
            super(trace, hold, advice);
        }

        @Override
        int kind() {
            return 1;
        }

        @Override
        int grip() {
            return super.grip() + 1;
        }

        @Override
        int told() {
            trace[0] = trace[0] * 31 + 2;
            return super.told() + 100;
        }
    }

    static final class Red extends Trellis {
        Red(int[] trace, int hold, int advice) {
            super(trace, hold, advice);
        }

        @Override
        int kind() {
            return 2;
        }

        @Override
        int grip() {
            return hold + hold;
        }

        @Override
        int told() {
            trace[0] = trace[0] * 31 + 3;
            int first = super.told();
            return first + asStripe();
        }

        @Override
        public int stroked() {
            trace[0] = trace[0] * 31 + 5;
            return 10;
        }
    }

    private final int[] trace = new int[1];
    private List<Stripe> layers = new ArrayList<>();
    private int warm;
    private int damp;
    private final List<int[]> readings = new ArrayList<>();
    private final Object[] sheets = new Object[4];
    private int fault;

    private Stripe make(int kind, int hold, int advice) {
        return kind == 0 ? new Stripe(trace, hold, advice)
            : kind == 1 ? new Trellis(trace, hold, advice) : new Red(trace, hold, advice);
    }

    private boolean noLayer(int k) {
        return k < 0 || k >= layers.size();
    }

    private static boolean out(int v, int least, int most) {
        return v < least || v > most;
    }

    // the faults, as the machine has them

    private interface Work {
        long run();
    }

    private long guarded(Work work, boolean asLong) {
        fault = 0;
        try {
            return work.run();
        } catch (NullPointerException e) {
            fault = 1;
        } catch (ClassCastException | ArrayStoreException e) {
            fault = 2;
        } catch (IndexOutOfBoundsException e) {
            fault = 3;
        } catch (NegativeArraySizeException e) {
            fault = 4;
        }
        return asLong ? Long.MIN_VALUE : -10 - fault;
    }

    /** The row of a lane as ints; the casts are the machine's. */
    private static int[] row(Object sheet, int lane) {
        if (lane == 0) {
            byte[] bytes = (byte[]) sheet;
            int[] row = new int[bytes.length];
            for (int i = 0; i < row.length; i++) {
                row[i] = bytes[i];
            }
            return row;
        }
        if (lane == 1) {
            short[] shorts = (short[]) sheet;
            int[] row = new int[shorts.length];
            for (int i = 0; i < row.length; i++) {
                row[i] = shorts[i];
            }
            return row;
        }
        return ((int[]) sheet).clone();
    }

    private static int[] taken(int[] row, int i, int n) {
        // no row has so many cells: the copy fails all the same
        int[] cells = new int[Math.min(n, 1000)];
        System.arraycopy(row, i, cells, 0, n);
        return cells;
    }

    // 1

    int wall(int sheet, int lane, int i, int n) {
        fault = 0;
        if (out(sheet, 0, 3)) {
            return -1;
        }
        if (out(lane, 0, 2)) {
            return -2;
        }
        return (int) guarded(() -> readText(taken(row(sheets[sheet], lane), i, n)), false);
    }

    private int readText(int[] codes) {
        StringBuilder text = new StringBuilder();
        for (int c : codes) {
            text.append(c < 0 || c > 127 ? '?' : (char) c);
        }
        String whole = text.toString();
        if (!whole.matches("w[0-9]{2}(;[str][0-9]{2}){2,6}")) {
            for (int length = 1; length <= whole.length(); length++) {
                if (!goesOn(whole.substring(0, length))) {
                    return -100 - (length - 1);
                }
            }
            return -100 - whole.length();
        }
        layers = new ArrayList<>();
        readings.clear();
        warm = whole.charAt(1) - '0';
        damp = whole.charAt(2) - '0';
        for (String part : whole.substring(4).split(";")) {
            layers.add(make("str".indexOf(part.charAt(0)), part.charAt(1) - '0', part.charAt(2) - '0'));
        }
        return layers.size();
    }

    /** Whether some text begins so: with something put behind it, it is one. */
    private static boolean goesOn(String start) {
        String example = "w00;s00;s00;s00;s00;s00;s00";
        return start.length() <= example.length()
            && (start + example.substring(start.length())).matches("w[0-9]{2}(;[str][0-9]{2}){2,6}");
    }

    int ofLayer(int k, int what) {
        if (noLayer(k)) {
            return -1;
        }
        Stripe layer = layers.get(k);
        switch (what) {
            case 0: return layer.kind();
            case 1: return layer.hold;
            case 2: return layer.advice;
            case 3: return layer.grip();
            case 4: return isLifted(layers, k, warm, damp) ? 1 : 0;
            case 5: return isHeard(layers, k, warm, damp) ? 1 : 0;
            default: return -2;
        }
    }

    int heat(int v) {
        if (out(v, 0, 20)) {
            return -2;
        }
        if (layers.isEmpty()) {
            return -3;
        }
        int was = warm;
        warm = v;
        return was;
    }

    int wet(int v) {
        if (out(v, 0, 9)) {
            return -2;
        }
        if (layers.isEmpty()) {
            return -3;
        }
        int was = damp;
        damp = v;
        return was;
    }

    int paste(int k, int v) {
        if (noLayer(k)) {
            return -1;
        }
        if (out(v, 0, 9)) {
            return -2;
        }
        int was = layers.get(k).hold;
        layers.get(k).hold = v;
        return was;
    }

    // 2

    private static boolean isLifted(List<Stripe> wall, int k, int warm, int damp) {
        return warm - damp >= wall.get(k).grip() && (k == 0 || isLifted(wall, k - 1, warm, damp));
    }

    private static boolean isHeard(List<Stripe> wall, int k, int warm, int damp) {
        for (int above = 0; above <= k; above++) {
            if (wall.get(above) instanceof Red) {
                return false;
            }
        }
        return isLifted(wall, k, warm, damp);
    }

    private static List<Stripe> heardOf(List<Stripe> wall, int warm, int damp) {
        List<Stripe> heard = new ArrayList<>();
        for (int k = 0; k < wall.size(); k++) {
            if (isHeard(wall, k, warm, damp)) {
                heard.add(wall.get(k));
            }
        }
        return heard;
    }

    private static int counselOf(List<Stripe> wall, int warm, int damp) {
        int[] votes = new int[10];
        List<Stripe> heard = heardOf(wall, warm, damp);
        for (Stripe one : heard) {
            votes[one.advice]++;
        }
        int best = 0;
        for (int v : votes) {
            best = Math.max(best, v);
        }
        for (Stripe one : heard) {
            if (votes[one.advice] == best) {
                return one.advice;
            }
        }
        return -9;
    }

    private static int setOf(List<Stripe> wall, int warm, int damp) {
        int set = 0;
        for (int k = 0; k < wall.size(); k++) {
            if (isHeard(wall, k, warm, damp)) {
                set += Math.pow(2, k);
            }
        }
        return set;
    }

    int heard() {
        return layers.isEmpty() ? -3 : setOf(layers, warm, damp);
    }

    int counsel(int w, int d) {
        if (out(w, 0, 20) || out(d, 0, 9)) {
            return -2;
        }
        return layers.isEmpty() ? -3 : counselOf(layers, w, d);
    }

    int clash(int what) {
        if (out(what, 0, 1)) {
            return -2;
        }
        if (layers.isEmpty()) {
            return -3;
        }
        List<Stripe> heard = heardOf(layers, warm, damp);
        if (what == 0) {
            int ordered = 0;
            for (Stripe a : heard) {
                for (Stripe b : heard) {
                    ordered += a.advice != b.advice ? 1 : 0;
                }
            }
            return ordered / 2;
        }
        int fewest = heard.size();
        for (int kept = 0; kept < 1 << heard.size(); kept++) {
            TreeSet<Integer> given = new TreeSet<>();
            for (int k = 0; k < heard.size(); k++) {
                if ((kept >> k & 1) == 1) {
                    given.add(heard.get(k).advice);
                }
            }
            if (given.size() <= 1) {
                fewest = Math.min(fewest, heard.size() - Integer.bitCount(kept));
            }
        }
        return fewest;
    }

    int putUp(int kind, int hold, int advice) {
        if (out(kind, 0, 2) || out(hold, 0, 9) || out(advice, 0, 9)) {
            return -2;
        }
        if (layers.isEmpty()) {
            return -3;
        }
        if (layers.size() == 6) {
            return -4;
        }
        layers.add(0, make(kind, hold, advice));
        return layers.size();
    }

    int peel() {
        if (layers.size() < 2 || !isLifted(layers, 0, warm, damp)) {
            return -3;
        }
        return layers.remove(0).advice;
    }

    int days(int sheet, int lane, int i, int n, int what) {
        fault = 0;
        if (out(sheet, 0, 3)) {
            return -1;
        }
        if (out(lane, 0, 2) || out(n, 0, 20) || out(what, 0, 4)) {
            return -2;
        }
        int[][] cells = new int[1][];
        int answer = (int) guarded(() -> {
            cells[0] = taken(row(sheets[sheet], lane), i, 2 * n);
            return 0;
        }, false);
        return fault != 0 ? answer : daysOf(cells[0], what);
    }

    private int daysOf(int[] cells, int what) {
        if (layers.isEmpty()) {
            return -3;
        }
        int[] most = {20, 9, 0, 9};
        for (int p = 0; p < cells.length; p += 2) {
            if (out(cells[p], 0, 3) || out(cells[p + 1], 0, most[cells[p]])) {
                return -2;
            }
        }
        List<Stripe> then = new ArrayList<>(layers);
        int w = warm;
        int d = damp;
        int somebody = 0;
        for (int p = 0; p < cells.length; p += 2) {
            int v = cells[p + 1];
            boolean can = true;
            if (cells[p] == 0) {
                w = v;
            } else if (cells[p] == 1) {
                d = v;
            } else if (cells[p] == 2) {
                can = then.size() > 1 && isLifted(then, 0, w, d);
                if (can) {
                    then.remove(0);
                }
            } else {
                can = then.size() < 6;
                then.add(0, make(0, v, v));
            }
            if (!can) {
                return what == 1 ? p / 2 : -100 - p / 2;
            }
            somebody += heardOf(then, w, d).isEmpty() ? 0 : 1;
        }
        int[] answers = {then.size(), -9, counselOf(then, w, d), setOf(then, w, d), somebody};
        return answers[what];
    }

    // 3

    int needs(int k) {
        if (noLayer(k)) {
            return -1;
        }
        int w = 0;
        while (w <= 20 && !isHeard(layers, k, w, damp)) {
            w++;
        }
        return w > 20 ? -9 : w;
    }

    int gets(int v) {
        if (out(v, 0, 9)) {
            return -2;
        }
        if (layers.isEmpty()) {
            return -3;
        }
        int w = 0;
        while (w <= 20 && counselOf(layers, w, damp) != v) {
            w++;
        }
        return w > 20 ? -9 : w;
    }

    int without(int v) {
        if (out(v, 0, 9)) {
            return -2;
        }
        if (layers.isEmpty()) {
            return -3;
        }
        for (int size = 0; size <= layers.size(); size++) {
            for (int set = 0; set < 1 << layers.size(); set++) {
                List<Stripe> left = new ArrayList<>();
                for (int k = 0; k < layers.size(); k++) {
                    if ((set >> k & 1) == 0) {
                        left.add(layers.get(k));
                    }
                }
                if (Integer.bitCount(set) == size && counselOf(left, warm, damp) == v) {
                    return set;
                }
            }
        }
        return -9;
    }

    // 4

    int reading(int w, int d, int v) {
        if (out(w, 0, 20) || out(d, 0, 9) || v != -9 && out(v, 0, 9)) {
            return -2;
        }
        if (layers.isEmpty()) {
            return -3;
        }
        if (readings.size() == 8) {
            return -4;
        }
        readings.add(new int[] {w, d, v});
        return readings.size() - 1;
    }

    int back(int k) {
        if (out(k, 0, readings.size())) {
            return -2;
        }
        for (int i = 0; i < k; i++) {
            readings.remove(readings.size() - 1);
        }
        return readings.size();
    }

    private boolean allSo(List<Stripe> wall) {
        for (int[] r : readings) {
            if (counselOf(wall, r[0], r[1]) != r[2]) {
                return false;
            }
        }
        return true;
    }

    private void gather(List<Integer> start, List<List<Integer>> found) {
        if (start.size() == layers.size()) {
            List<Stripe> wall = new ArrayList<>();
            for (int k : start) {
                wall.add(layers.get(k));
            }
            if (allSo(wall)) {
                found.add(new ArrayList<>(start));
            }
            return;
        }
        for (int k = 0; k < layers.size(); k++) {
            if (!start.contains(k)) {
                start.add(k);
                gather(start, found);
                start.remove(start.size() - 1);
            }
        }
    }

    int orders(int k) {
        if (out(k, -1, 5)) {
            return -2;
        }
        if (layers.isEmpty()) {
            return -3;
        }
        List<List<Integer>> found = new ArrayList<>();
        gather(new ArrayList<>(), found);
        if (k == -1) {
            return found.size();
        }
        return found.isEmpty() || k >= layers.size() ? -9 : found.get(0).get(k);
    }

    private int fits(int k, int part, int most) {
        if (noLayer(k)) {
            return -1;
        }
        int set = 0;
        for (int v = 0; v <= most; v++) {
            Stripe is = layers.get(k);
            List<Stripe> wall = new ArrayList<>(layers);
            wall.set(k, make(part == 0 ? v : is.kind(), part == 1 ? v : is.hold, part == 2 ? v : is.advice));
            set += allSo(wall) ? 1 << v : 0;
        }
        return set;
    }

    int holds(int k) {
        return fits(k, 1, 9);
    }

    int advices(int k) {
        return fits(k, 2, 9);
    }

    int kinds(int k) {
        return fits(k, 0, 2);
    }

    long odds(int k, int which) {
        if (noLayer(k) || out(which, 0, 1)) {
            return Long.MIN_VALUE;
        }
        int good = 0;
        for (int w = 0; w <= 20; w++) {
            good += isHeard(layers, k, w, damp) ? 1 : 0;
        }
        int shared = java.math.BigInteger.valueOf(good).gcd(java.math.BigInteger.valueOf(21)).intValue();
        return which == 0 ? good / shared : 21 / shared;
    }

    // 5

    int sheet(int k, int lane, int n) {
        fault = 0;
        if (out(k, 0, 3)) {
            return -1;
        }
        if (out(lane, 0, 2) || n > 60) {
            return -2;
        }
        return (int) guarded(() -> {
            sheets[k] = lane == 0 ? new byte[n] : lane == 1 ? new short[n] : new int[n];
            return 1;
        }, false);
    }

    int lose(int k) {
        if (out(k, 0, 3)) {
            return -1;
        }
        int had = sheets[k] == null ? 0 : 1;
        sheets[k] = null;
        return had;
    }

    int put(int k, int i, int v) {
        fault = 0;
        if (out(k, 0, 3)) {
            return -1;
        }
        return (int) guarded(() -> {
            if (sheets[k] instanceof byte[]) {
                ((byte[]) sheets[k])[i] = (byte) v;
            } else if (sheets[k] instanceof short[]) {
                ((short[]) sheets[k])[i] = (short) v;
            } else {
                ((int[]) sheets[k])[i] = v;
            }
            return 1;
        }, false);
    }

    long cell(int k, int i, int lane) {
        fault = 0;
        if (out(k, 0, 3) || out(lane, 0, 2)) {
            return Long.MIN_VALUE;
        }
        return guarded(() -> row(sheets[k], lane)[i], true);
    }

    int copy(int k, int i, int other, int j, int n) {
        fault = 0;
        if (out(k, 0, 3) || out(other, 0, 3)) {
            return -1;
        }
        return (int) guarded(() -> {
            System.arraycopy(sheets[k], i, sheets[other], j, n);
            return n;
        }, false);
    }

    int tell(int k) {
        return noLayer(k) ? -1 : layers.get(k).told();
    }

    int stroke(int k) {
        return noLayer(k) ? -1 : layers.get(k).stroked();
    }

    int as(int k, int kind) {
        fault = 0;
        if (noLayer(k)) {
            return -1;
        }
        if (out(kind, 0, 2)) {
            return -2;
        }
        return (int) guarded(() -> {
            Object layer = layers.get(k);
            Stripe taken = kind == 0 ? (Stripe) layer : kind == 1 ? (Trellis) layer : (Red) layer;
            return taken == null ? 0 : 1;
        }, false);
    }

    int trace() {
        return trace[0];
    }

    int fault() {
        return fault;
    }

    int many(int what) {
        int[] answers = {layers.size(), warm, damp, heardOf(layers, warm, damp).size(), readings.size()};
        return out(what, 0, 4) ? -2 : answers[what];
    }
}
