import java.util.Random;

/** Runs of calls, always the same ones, asked of the class and of PlainModel: every answer must agree. */
public final class RandomRunsTest {
    private static final int RUNS = 3000, CALLS = 512, KINDS_OF_CALLS = 31;
    private static final int[] EDGES = {Integer.MIN_VALUE, Integer.MAX_VALUE, -100, -10, -9, -2, -1, 3, 4, 5, 6, 7,
        8, 9, 10, 20, 21, 59, 60, 61, 127, 128, 255, 256, 32768, 65536};

    private final Check check;
    private final Random random;
    private final PaperLayers x = new PaperLayers();
    private final PlainModel model = new PlainModel();
    private final int run;
    private int calls;

    private RandomRunsTest(Check check, int run) {
        this.check = check;
        this.run = run;
        random = new Random(run);
    }

    public static void main(String[] args) {
        Check check = new Check();
        for (int run = 0; run < RUNS; run++) {
            new RandomRunsTest(check, run).go();
        }
        check.end();
    }

    private void go() {
        while (calls < CALLS) {
            int dice = random.nextInt(100);
            if (dice < 4) {
                layWall();
            } else if (dice < 8) {
                layDays();
            } else if (dice < 12) {
                readTruly();
            } else {
                step(random.nextInt(KINDS_OF_CALLS));
            }
        }
    }

    private void same(String call, long got, long want) {
        calls++;
        check.due("run " + run + ": " + call, got, want);
    }

    /** Mostly a number that the call may take, at times one at the edges. */
    private int upTo(int most) {
        return random.nextInt(25) == 0 ? EDGES[random.nextInt(EDGES.length)] : random.nextInt(most + 1);
    }

    private int layer() {
        return upTo(5);
    }

    private void layWall() {
        StringBuilder text = new StringBuilder("w");
        text.append(random.nextInt(10)).append(random.nextInt(3));
        int holds = random.nextInt(10) + 1;
        int advices = random.nextInt(10) + 1;
        for (int count = random.nextInt(6) + 2; count > 0; count--) {
            text.append(';').append("sssttr".charAt(random.nextInt(6)));
            text.append(random.nextInt(holds)).append(random.nextInt(advices));
        }
        if (random.nextInt(5) == 0) {
            text.setCharAt(random.nextInt(text.length()), "w;str09/:x".charAt(random.nextInt(10)));
        }
        int k = random.nextInt(4);
        int lane = random.nextInt(3);
        int from = random.nextInt(4);
        newSheet(k, lane, from + text.length());
        for (int i = 0; i < text.length(); i++) {
            putCell(k, from + i, text.charAt(i));
        }
        int n = random.nextInt(5) == 0 ? random.nextInt(text.length() + 2) : text.length();
        same("wall", x.wall(k, lane, from, n), model.wall(k, lane, from, n));
        same("fault", x.fault(), model.fault());
    }

    private void layDays() {
        int n = random.nextInt(6);
        int k = random.nextInt(4);
        int lane = random.nextInt(3);
        newSheet(k, lane, 2 * n + random.nextInt(2));
        int[] most = {20, 9, 0, 9};
        for (int day = 0; day < n; day++) {
            int act = random.nextInt(40) == 0 ? random.nextInt(6) - 1 : random.nextInt(4);
            int v = random.nextInt(40) == 0 ? upTo(20) : random.nextInt(most[act & 3] + 1);
            putCell(k, 2 * day, act);
            putCell(k, 2 * day + 1, v);
        }
        for (int what = 0; what < 5; what++) {
            same("days " + what, x.days(k, lane, 0, n, what), model.days(k, lane, 0, n, what));
        }
    }

    /** A reading that is so, now, or else there would soon be no order or hold left that fits. */
    private void readTruly() {
        int w = random.nextInt(21);
        int d = random.nextInt(4);
        int v = model.counsel(w, d);
        same("reading", x.reading(w, d, v), model.reading(w, d, v));
        same("orders", x.orders(-1), model.orders(-1));
    }

    private void newSheet(int k, int lane, int n) {
        same("sheet", x.sheet(k, lane, n), model.sheet(k, lane, n));
    }

    private void putCell(int k, int i, int v) {
        same("put", x.put(k, i, v), model.put(k, i, v));
    }

    private void step(int kind) {
        if (kind < 16) {
            askWall(kind);
        } else {
            askSheets(kind);
        }
    }

    private void askWall(int kind) {
        int a = layer();
        int b = upTo(9);
        int w = upTo(20);
        switch (kind) {
            case 0: same("ofLayer " + a + " " + b, x.ofLayer(a, b), model.ofLayer(a, b)); break;
            case 1: same("heat " + w, x.heat(w), model.heat(w)); break;
            case 2: same("wet " + b, x.wet(b), model.wet(b)); break;
            case 3: same("paste " + a + " " + b, x.paste(a, b), model.paste(a, b)); break;
            case 4: same("heard", x.heard(), model.heard()); break;
            case 5: same("counsel " + w + " " + b, x.counsel(w, b), model.counsel(w, b)); break;
            case 6: same("clash", x.clash(a & 1), model.clash(a & 1)); break;
            case 7: putUp(upTo(2), b, upTo(9)); break;
            case 8: same("peel", x.peel(), model.peel()); break;
            case 9: same("needs " + a, x.needs(a), model.needs(a)); break;
            case 10: same("gets " + b, x.gets(b), model.gets(b)); break;
            case 11: same("without " + b, x.without(b), model.without(b)); break;
            case 12: reading(w, b, upTo(9)); break;
            case 13: same("back " + a, x.back(a), model.back(a)); break;
            case 14: same("orders " + a, x.orders(a), model.orders(a)); break;
            default: same("clash " + b, x.clash(b), model.clash(b)); break;
        }
    }

    private void putUp(int kind, int hold, int advice) {
        same("putUp " + kind + " " + hold + " " + advice, x.putUp(kind, hold, advice), model.putUp(kind, hold, advice));
    }

    private void reading(int w, int d, int v) {
        same("reading " + w + " " + d + " " + v, x.reading(w, d, v), model.reading(w, d, v));
    }

    private void askSheets(int kind) {
        int a = layer();
        int k = upTo(3);
        int lane = upTo(2);
        int i = upTo(12);
        switch (kind) {
            case 16: same("holds " + a, x.holds(a), model.holds(a)); break;
            case 17: same("advices " + a, x.advices(a), model.advices(a)); break;
            case 18: same("kinds " + a, x.kinds(a), model.kinds(a)); break;
            case 19: same("odds " + a + " " + k, x.odds(a, k), model.odds(a, k)); break;
            case 20: newSheet(k, lane, i); break;
            case 21: same("lose " + k, x.lose(k), model.lose(k)); break;
            case 22: putCell(k, i, random.nextInt()); break;
            case 23: same("cell " + k + " " + i + " " + lane, x.cell(k, i, lane), model.cell(k, i, lane)); break;
            case 24: copy(k, i, upTo(3), upTo(12), upTo(12)); break;
            case 25: same("tell " + a, x.tell(a), model.tell(a)); break;
            case 26: same("stroke " + a, x.stroke(a), model.stroke(a)); break;
            case 27: same("as " + a + " " + lane, x.as(a, lane), model.as(a, lane)); break;
            case 28: same("trace", x.trace(), model.trace()); break;
            case 29: same("many " + a, x.many(a), model.many(a)); break;
            default: days(k, lane, i, upTo(20), upTo(4)); break;
        }
        same("fault", x.fault(), model.fault());
    }

    private void copy(int k, int i, int other, int j, int n) {
        same("copy " + k + " " + i + " " + other + " " + j + " " + n, x.copy(k, i, other, j, n), model.copy(k, i, other, j, n));
    }

    private void days(int k, int lane, int i, int n, int what) {
        same("days " + k + " " + lane + " " + i + " " + n + " " + what, x.days(k, lane, i, n, what), model.days(k, lane, i, n, what));
        same("wall " + k + " " + lane + " " + i + " " + n, x.wall(k, lane, i, n), model.wall(k, lane, i, n));
    }
}
