/**
 * Papers on a wall, each put up on the last tenant's, and what those behind them counsel.
 * The numbered promises of DOC.md say what each call answers.
 */
public final class PaperLayers {
    public static final int UNKNOWN = -1, OUTSIDE = -2, STATE = -3, FULL = -4, NONE = -9;
    public static final long LOST = Long.MIN_VALUE;

    private static final int STRIPE = 0, TRELLIS = 1, RED = 2;
    private static final int KIND = 0, HOLD = 1, ADVICE = 2, GRIP = 3, IS_LIFTED = 4, IS_HEARD = 5;
    private static final int TO_HEAT = 0, TO_WET = 1, TO_PEEL = 2, TO_PUT_UP = 3;
    private static final int LAYERS_THEN = 0, FIRST_WRONG = 1, COUNSEL_THEN = 2, HEARD_THEN = 3, DAYS_HEARD = 4;
    private static final int NO_FAULT = 0, NULL = 1, CAST = 2, INDEX = 3, SIZE = 4;
    private static final int BYTES = 0, SHORTS = 1, INTS = 2;
    private static final int MOST_WARM = 20, MOST_DIGIT = 9, MOST_DAYS = 20;
    private static final int FEWEST_LAYERS = 2, MOST_LAYERS = 6, MOST_READINGS = 8;
    private static final int SHEETS = 4, MOST_CELLS = 60;
    private static final int ALL_ORDERS = 720;
    private static final int TEXT_HEAD = 3, TEXT_LAYER = 4;

    private final Wall now;
    /** What would be is tried out on this one, so that such calls change nothing. */
    private final Wall trial;
    private final Readings readings;
    private final Order order;
    private final Sheet[] sheets;
    private int traced;
    private int latestFault;

    public PaperLayers() {
        now = new Wall();
        trial = new Wall();
        readings = new Readings();
        order = new Order();
        sheets = new Sheet[SHEETS];
        for (int k = 0; k < SHEETS; k++) {
            sheets[k] = new Sheet();
        }
    }

    // ---- 1 the wall

    public int wall(int sheet, int lane, int i, int n) {
        latestFault = NO_FAULT;
        Sheet text = sheetAt(sheet);
        if (text == null) {
            return UNKNOWN;
        }
        if (!isUpTo(lane, INTS)) {
            return OUTSIDE;
        }
        int found = text.faultAsLane(lane);
        if (found == NO_FAULT) {
            found = n < 0 ? SIZE : text.faultOfCells(i, n);
        }
        if (found != NO_FAULT) {
            return failed(found);
        }
        int wrong = firstFault(text, i, n);
        if (wrong >= 0) {
            return -100 - wrong;
        }
        now.readText(text, i, n);
        readings.count = 0;
        return now.count;
    }

    public int ofLayer(int k, int what) {
        Layer layer = now.layerAt(k);
        if (layer == null) {
            return UNKNOWN;
        }
        switch (what) {
            case KIND:
                return layer.kind;
            case HOLD:
                return layer.hold;
            case ADVICE:
                return layer.advice;
            case GRIP:
                return layer.grip();
            case IS_LIFTED:
                return k < now.liftedBy(now.warmth()) ? 1 : 0;
            case IS_HEARD:
                return k < now.heardBy(now.warmth()) ? 1 : 0;
            default:
                return OUTSIDE;
        }
    }

    public int heat(int v) {
        if (!isUpTo(v, MOST_WARM)) {
            return OUTSIDE;
        }
        if (!now.stands()) {
            return STATE;
        }
        int was = now.warm;
        now.warm = v;
        return was;
    }

    public int wet(int v) {
        if (!isUpTo(v, MOST_DIGIT)) {
            return OUTSIDE;
        }
        if (!now.stands()) {
            return STATE;
        }
        int was = now.damp;
        now.damp = v;
        return was;
    }

    public int paste(int k, int v) {
        Layer layer = now.layerAt(k);
        if (layer == null) {
            return UNKNOWN;
        }
        if (!isUpTo(v, MOST_DIGIT)) {
            return OUTSIDE;
        }
        int was = layer.hold;
        layer.hold = v;
        return was;
    }

    // ---- 2 who is heard

    public int heard() {
        return now.stands() ? setOfFirst(now.heardBy(now.warmth())) : STATE;
    }

    public int counsel(int warm, int damp) {
        if (!isUpTo(warm, MOST_WARM) || !isUpTo(damp, MOST_DIGIT)) {
            return OUTSIDE;
        }
        return now.stands() ? now.counselBy(warm - damp) : STATE;
    }

    public int clash(int what) {
        if (!isUpTo(what, 1)) {
            return OUTSIDE;
        }
        if (!now.stands()) {
            return STATE;
        }
        int heard = now.heardBy(now.warmth());
        return what == 0 ? now.unlikeTwos(heard) : heard - now.mostAlike(heard);
    }

    public int putUp(int kind, int hold, int advice) {
        if (!isUpTo(kind, RED) || !isUpTo(hold, MOST_DIGIT) || !isUpTo(advice, MOST_DIGIT)) {
            return OUTSIDE;
        }
        if (!now.stands()) {
            return STATE;
        }
        return now.layOnTop(kind, hold, advice) ? now.count : FULL;
    }

    public int peel() {
        Layer topmost = now.layerAt(0);
        if (topmost == null) {
            return STATE;
        }
        int advice = topmost.advice;
        return now.peelTop() ? advice : STATE;
    }

    public int days(int sheet, int lane, int i, int n, int what) {
        latestFault = NO_FAULT;
        Sheet row = sheetAt(sheet);
        if (row == null) {
            return UNKNOWN;
        }
        if (!isUpTo(lane, INTS) || !isUpTo(n, MOST_DAYS) || !isUpTo(what, DAYS_HEARD)) {
            return OUTSIDE;
        }
        int found = row.faultAsLane(lane);
        if (found == NO_FAULT) {
            found = row.faultOfCells(i, 2 * n);
        }
        if (found != NO_FAULT) {
            return failed(found);
        }
        if (!now.stands()) {
            return STATE;
        }
        return areActs(row, i, n) ? afterDays(row, i, n, what) : OUTSIDE;
    }

    // ---- 3 how to hear

    public int needs(int k) {
        if (now.layerAt(k) == null) {
            return UNKNOWN;
        }
        for (int warm = 0; warm <= MOST_WARM; warm++) {
            if (k < now.heardBy(warm - now.damp)) {
                return warm;
            }
        }
        return NONE;
    }

    public int gets(int v) {
        if (!isUpTo(v, MOST_DIGIT)) {
            return OUTSIDE;
        }
        if (!now.stands()) {
            return STATE;
        }
        for (int warm = 0; warm <= MOST_WARM; warm++) {
            if (now.counselBy(warm - now.damp) == v) {
                return warm;
            }
        }
        return NONE;
    }

    public int without(int v) {
        if (!isUpTo(v, MOST_DIGIT)) {
            return OUTSIDE;
        }
        if (!now.stands()) {
            return STATE;
        }
        int fewest = NONE;
        for (int out = 0; out < 1 << now.count; out++) {
            if (fewest == NONE || Integer.bitCount(out) < Integer.bitCount(fewest)) {
                trial.becomeLess(now, out);
                if (trial.counselBy(trial.warmth()) == v) {
                    fewest = out;
                }
            }
        }
        return fewest;
    }

    // ---- 4 what was counselled

    public int reading(int warm, int damp, int v) {
        if (!isUpTo(warm, MOST_WARM) || !isUpTo(damp, MOST_DIGIT)) {
            return OUTSIDE;
        }
        if (!isUpTo(v, MOST_DIGIT) && v != NONE) {
            return OUTSIDE;
        }
        if (!now.stands()) {
            return STATE;
        }
        return readings.note(warm - damp, v) ? readings.count - 1 : FULL;
    }

    public int back(int k) {
        if (!isUpTo(k, readings.count)) {
            return OUTSIDE;
        }
        readings.count -= k;
        return readings.count;
    }

    public int orders(int k) {
        if (k < -1 || k >= MOST_LAYERS) {
            return OUTSIDE;
        }
        if (!now.stands()) {
            return STATE;
        }
        if (k == -1) {
            return countOrders();
        }
        return k < now.count && findOrder() ? order.layerIn(k) : NONE;
    }

    public int holds(int k) {
        return now.layerAt(k) == null ? UNKNOWN : fitting(k, HOLD, MOST_DIGIT);
    }

    public int advices(int k) {
        return now.layerAt(k) == null ? UNKNOWN : fitting(k, ADVICE, MOST_DIGIT);
    }

    public int kinds(int k) {
        return now.layerAt(k) == null ? UNKNOWN : fitting(k, KIND, RED);
    }

    public long odds(int k, int which) {
        if (now.layerAt(k) == null || !isUpTo(which, 1)) {
            return LOST;
        }
        int all = MOST_WARM + 1;
        int good = 0;
        for (int warm = 0; warm <= MOST_WARM; warm++) {
            if (k < now.heardBy(warm - now.damp)) {
                good++;
            }
        }
        int shared = greatestShared(good, all);
        return which == 0 ? good / shared : all / shared;
    }

    // ---- 5 sheets, parts

    public int sheet(int k, int lane, int n) {
        latestFault = NO_FAULT;
        Sheet sheet = sheetAt(k);
        if (sheet == null) {
            return UNKNOWN;
        }
        if (!isUpTo(lane, INTS) || n > MOST_CELLS) {
            return OUTSIDE;
        }
        if (n < 0) {
            return failed(SIZE);
        }
        sheet.begin(lane, n);
        return 1;
    }

    public int lose(int k) {
        Sheet sheet = sheetAt(k);
        if (sheet == null) {
            return UNKNOWN;
        }
        int had = sheet.hasRow ? 1 : 0;
        sheet.hasRow = false;
        return had;
    }

    public int put(int k, int i, int v) {
        latestFault = NO_FAULT;
        Sheet sheet = sheetAt(k);
        if (sheet == null) {
            return UNKNOWN;
        }
        int found = sheet.faultOfCell(i);
        if (found != NO_FAULT) {
            return failed(found);
        }
        sheet.setCell(i, v);
        return 1;
    }

    public long cell(int k, int i, int lane) {
        latestFault = NO_FAULT;
        Sheet sheet = sheetAt(k);
        if (sheet == null || !isUpTo(lane, INTS)) {
            return LOST;
        }
        int found = sheet.faultAsLane(lane);
        if (found == NO_FAULT) {
            found = sheet.faultOfCell(i);
        }
        if (found != NO_FAULT) {
            latestFault = found;
            return LOST;
        }
        return sheet.getCell(i);
    }

    public int copy(int k, int i, int other, int j, int n) {
        latestFault = NO_FAULT;
        Sheet from = sheetAt(k);
        Sheet to = sheetAt(other);
        if (from == null || to == null) {
            return UNKNOWN;
        }
        int found = from.faultOfCopy(i, to, j, n);
        if (found != NO_FAULT) {
            return failed(found);
        }
        System.arraycopy(from.cells, i, to.cells, j, n);
        return n;
    }

    public int tell(int k) {
        Layer layer = now.layerAt(k);
        if (layer == null) {
            return UNKNOWN;
        }
        switch (layer.kind) {
            case RED:
                return tellRed(layer);
            case TRELLIS:
                return tellTrellis(layer);
            default:
                return tellStripe(layer);
        }
    }

    public int stroke(int k) {
        Layer layer = now.layerAt(k);
        if (layer == null) {
            return UNKNOWN;
        }
        return layer.kind == RED ? strokeRed() : strokeLent(layer);
    }

    public int as(int k, int kind) {
        latestFault = NO_FAULT;
        Layer layer = now.layerAt(k);
        if (layer == null) {
            return UNKNOWN;
        }
        if (!isUpTo(kind, RED)) {
            return OUTSIDE;
        }
        return layer.isA(kind) ? 1 : failed(CAST);
    }

    public int trace() {
        return traced;
    }

    public int fault() {
        return latestFault;
    }

    public int many(int what) {
        switch (what) {
            case 0:
                return now.count;
            case 1:
                return now.warm;
            case 2:
                return now.damp;
            case 3:
                return now.heardBy(now.warmth());
            case 4:
                return readings.count;
            default:
                return OUTSIDE;
        }
    }

    // ---- what the calls above share

    private static boolean isUpTo(int v, int most) {
        return v >= 0 && v <= most;
    }

    /** Those who are lifted or heard always lie on top, with no gap: how many tells the set. */
    private static int setOfFirst(int howMany) {
        return (1 << howMany) - 1;
    }

    private static int greatestShared(int a, int b) {
        for (int d = b; d > 1; d--) {
            if (a % d == 0 && b % d == 0) {
                return d;
            }
        }
        return 1;
    }

    private Sheet sheetAt(int k) {
        return isUpTo(k, SHEETS - 1) ? sheets[k] : null;
    }

    private int failed(int found) {
        latestFault = found;
        return -10 - found;
    }

    // ---- the text of a wall

    /** The place of the first fault, or -1: there is none. */
    private static int firstFault(Sheet text, int from, int n) {
        for (int place = 0; place < n; place++) {
            if (!goesOn(place, text.getCell(from + place))) {
                return place;
            }
        }
        boolean isWhole = n >= TEXT_HEAD + FEWEST_LAYERS * TEXT_LAYER && (n - TEXT_HEAD) % TEXT_LAYER == 0;
        return isWhole ? -1 : n;
    }

    private static boolean goesOn(int place, int code) {
        if (place == 0) {
            return code == 'w';
        }
        if (place < TEXT_HEAD) {
            return isDigit(code);
        }
        int inLayer = (place - TEXT_HEAD) % TEXT_LAYER;
        if (inLayer == 0) {
            return code == ';' && (place - TEXT_HEAD) / TEXT_LAYER < MOST_LAYERS;
        }
        return inLayer == 1 ? kindOf(code) != NONE : isDigit(code);
    }

    private static boolean isDigit(int code) {
        return code >= '0' && code <= '9';
    }

    private static int kindOf(int code) {
        switch (code) {
            case 's':
                return STRIPE;
            case 't':
                return TRELLIS;
            case 'r':
                return RED;
            default:
                return NONE;
        }
    }

    // ---- days that are told

    private static boolean areActs(Sheet row, int from, int n) {
        for (int day = 0; day < n; day++) {
            int place = from + 2 * day;
            if (!isAct(row.getCell(place), row.getCell(place + 1))) {
                return false;
            }
        }
        return true;
    }

    private static boolean isAct(int act, int v) {
        switch (act) {
            case TO_HEAT:
                return isUpTo(v, MOST_WARM);
            case TO_WET:
            case TO_PUT_UP:
                return isUpTo(v, MOST_DIGIT);
            case TO_PEEL:
                return v == 0;
            default:
                return false;
        }
    }

    private int afterDays(Sheet row, int from, int n, int what) {
        trial.become(now);
        int daysHeard = 0;
        for (int day = 0; day < n; day++) {
            int place = from + 2 * day;
            if (!trial.doAct(row.getCell(place), row.getCell(place + 1))) {
                return what == FIRST_WRONG ? day : -100 - day;
            }
            if (trial.heardBy(trial.warmth()) > 0) {
                daysHeard++;
            }
        }
        switch (what) {
            case LAYERS_THEN:
                return trial.count;
            case COUNSEL_THEN:
                return trial.counselBy(trial.warmth());
            case HEARD_THEN:
                return setOfFirst(trial.heardBy(trial.warmth()));
            case DAYS_HEARD:
                return daysHeard;
            default:
                return NONE;
        }
    }

    // ---- what could be in place of what is

    private boolean fitsInOrder() {
        trial.becomeOrdered(now, order);
        return readings.agreeWith(trial);
    }

    private int countOrders() {
        int fit = 0;
        order.begin(now.count);
        for (int tried = 0; tried < ALL_ORDERS; tried++) {
            if (fitsInOrder()) {
                fit++;
            }
            if (!order.next()) {
                return fit;
            }
        }
        return fit;
    }

    /** Leaves the first order that fits in this.order; false: there is none. */
    private boolean findOrder() {
        order.begin(now.count);
        for (int tried = 0; tried < ALL_ORDERS; tried++) {
            if (fitsInOrder()) {
                return true;
            }
            if (!order.next()) {
                return false;
            }
        }
        return false;
    }

    private int fitting(int k, int part, int most) {
        int set = 0;
        for (int v = 0; v <= most; v++) {
            trial.become(now);
            trial.change(k, part, v);
            if (readings.agreeWith(trial)) {
                set |= 1 << v;
            }
        }
        return set;
    }

    // ---- bodies that leave their number in the trace

    private void leave(int number) {
        traced = 31 * traced + number;
    }

    private int tellStripe(Layer layer) {
        leave(1);
        return layer.hold;
    }

    private int tellTrellis(Layer layer) {
        leave(2);
        return tellStripe(layer) + 100;
    }

    private int tellRed(Layer layer) {
        leave(3);
        int asTrellis = tellTrellis(layer);
        return asTrellis + tellStripe(layer);
    }

    private int strokeLent(Layer layer) {
        leave(4);
        return layer.advice;
    }

    private int strokeRed() {
        leave(5);
        return 10;
    }

    /** One paper. */
    private static final class Layer {
        int kind;
        int hold;
        int advice;

        void become(int newKind, int newHold, int newAdvice) {
            kind = newKind;
            hold = newHold;
            advice = newAdvice;
        }

        void becomeLike(Layer other) {
            become(other.kind, other.hold, other.advice);
        }

        int grip() {
            switch (kind) {
                case RED:
                    return 2 * hold;
                case TRELLIS:
                    return hold + 1;
                default:
                    return hold;
            }
        }

        /** Each kind is one of the kinds numbered below it, too. */
        boolean isA(int otherKind) {
            return kind >= otherKind;
        }
    }

    /** Papers, the topmost first, in a room so warm and so damp; without papers there is no wall. */
    private static final class Wall {
        private final Layer[] layers;
        int count;
        int warm;
        int damp;

        Wall() {
            layers = new Layer[MOST_LAYERS];
            for (int k = 0; k < MOST_LAYERS; k++) {
                layers[k] = new Layer();
            }
        }

        boolean stands() {
            return count > 0;
        }

        /** A layer, or null: there is none. */
        Layer layerAt(int k) {
            return k >= 0 && k < count && k < MOST_LAYERS ? layers[k] : null;
        }

        int warmth() {
            return warm - damp;
        }

        /** How many are lifted, from the topmost on. */
        int liftedBy(int warmth) {
            for (int k = 0; k < count; k++) {
                if (layers[k].grip() > warmth) {
                    return k;
                }
            }
            return count;
        }

        /** How many are heard, from the topmost on. */
        int heardBy(int warmth) {
            for (int k = 0; k < count; k++) {
                if (layers[k].kind == RED || layers[k].grip() > warmth) {
                    return k;
                }
            }
            return count;
        }

        int counselBy(int warmth) {
            int heard = heardBy(warmth);
            long votes = votesOf(heard);
            int most = 0;
            int counsel = NONE;
            for (int k = 0; k < heard; k++) {
                int given = votesFor(layers[k].advice, votes);
                if (given > most) {
                    most = given;
                    counsel = layers[k].advice;
                }
            }
            return counsel;
        }

        int mostAlike(int heard) {
            long votes = votesOf(heard);
            int most = 0;
            for (int k = 0; k < heard; k++) {
                most = Math.max(most, votesFor(layers[k].advice, votes));
            }
            return most;
        }

        /** How many give each advice, in four bits each: a row of ten would have to be cleared for each count. */
        private long votesOf(int heard) {
            long votes = 0;
            for (int k = 0; k < heard; k++) {
                votes += 1L << 4 * layers[k].advice;
            }
            return votes;
        }

        private static int votesFor(int advice, long votes) {
            return (int) (votes >> 4 * advice) & 15;
        }

        int unlikeTwos(int heard) {
            int twos = 0;
            for (int k = 0; k < heard; k++) {
                // from k on, so that each two is counted once
                for (int other = k + 1; other < heard; other++) {
                    if (layers[other].advice != layers[k].advice) {
                        twos++;
                    }
                }
            }
            return twos;
        }

        boolean layOnTop(int kind, int hold, int advice) {
            if (count >= MOST_LAYERS) {
                return false;
            }
            for (int k = count; k > 0; k--) {
                layers[k].becomeLike(layers[k - 1]);
            }
            layers[0].become(kind, hold, advice);
            count++;
            return true;
        }

        boolean peelTop() {
            if (count < 2 || liftedBy(warmth()) == 0) {
                return false;
            }
            for (int k = 1; k < count; k++) {
                layers[k - 1].becomeLike(layers[k]);
            }
            count--;
            return true;
        }

        /** Does an act of told days; false: it can't be. */
        boolean doAct(int act, int v) {
            switch (act) {
                case TO_HEAT:
                    warm = v;
                    return true;
                case TO_WET:
                    damp = v;
                    return true;
                case TO_PEEL:
                    return peelTop();
                default:
                    return layOnTop(STRIPE, v, v);
            }
        }

        void change(int k, int part, int v) {
            Layer layer = layerAt(k);
            if (layer == null) {
                return;
            }
            switch (part) {
                case KIND:
                    layer.kind = v;
                    break;
                case HOLD:
                    layer.hold = v;
                    break;
                default:
                    layer.advice = v;
                    break;
            }
        }

        /** The cells must be a text without a fault. */
        void readText(Sheet text, int from, int n) {
            begin(digitAt(text, from + 1), digitAt(text, from + 2));
            for (int place = from + TEXT_HEAD; place <= from + n - TEXT_LAYER; place += TEXT_LAYER) {
                addBelow(kindOf(text.getCell(place + 1)), digitAt(text, place + 2), digitAt(text, place + 3));
            }
        }

        private static int digitAt(Sheet text, int place) {
            return text.getCell(place) - '0';
        }

        private void begin(int newWarm, int newDamp) {
            count = 0;
            warm = newWarm;
            damp = newDamp;
        }

        private void addBelow(int kind, int hold, int advice) {
            if (count < MOST_LAYERS) {
                layers[count].become(kind, hold, advice);
                count++;
            }
        }

        private void addLike(Layer layer) {
            if (layer != null) {
                addBelow(layer.kind, layer.hold, layer.advice);
            }
        }

        void become(Wall other) {
            becomeLess(other, 0);
        }

        /** As another wall, but for the layers of the set out. */
        void becomeLess(Wall other, int out) {
            begin(other.warm, other.damp);
            for (int k = 0; k < other.count; k++) {
                if ((out & 1 << k) == 0) {
                    addLike(other.layerAt(k));
                }
            }
        }

        void becomeOrdered(Wall other, Order order) {
            begin(other.warm, other.damp);
            for (int place = 0; place < other.count; place++) {
                addLike(other.layerAt(order.layerIn(place)));
            }
        }
    }

    /** What was counselled, and by which warmth (how warm it was less how damp). */
    private static final class Readings {
        private final int[] warmths = new int[MOST_READINGS];
        private final int[] counsels = new int[MOST_READINGS];
        int count;

        boolean note(int warmth, int counsel) {
            if (count >= MOST_READINGS) {
                return false;
            }
            warmths[count] = warmth;
            counsels[count] = counsel;
            count++;
            return true;
        }

        boolean agreeWith(Wall wall) {
            for (int r = 0; r < count; r++) {
                if (wall.counselBy(warmths[r]) != counsels[r]) {
                    return false;
                }
            }
            return true;
        }
    }

    /** A row of all layers, the first being 0, 1, 2 .., and each next one the next greater as a row. */
    private static final class Order {
        private final int[] row = new int[MOST_LAYERS];
        private int count;

        void begin(int howMany) {
            count = Math.min(Math.max(howMany, 0), MOST_LAYERS);
            for (int place = 0; place < count; place++) {
                row[place] = place;
            }
        }

        int layerIn(int place) {
            return place >= 0 && place < count ? row[place] : NONE;
        }

        /** False: this was the last one. */
        boolean next() {
            for (int left = count - 2; left >= 0; left--) {
                if (row[left] < row[left + 1]) {
                    swap(left, placeOfNextGreater(left));
                    reverseFrom(left + 1);
                    return true;
                }
            }
            return false;
        }

        /** What lies behind place left falls from there on, so the last greater one is the least. */
        private int placeOfNextGreater(int left) {
            for (int right = count - 1; right > left; right--) {
                if (row[right] > row[left]) {
                    return right;
                }
            }
            return left;
        }

        private void reverseFrom(int start) {
            int end = count - 1;
            for (int left = start; left < end; left++) {
                swap(left, end);
                end--;
            }
        }

        private void swap(int a, int b) {
            int kept = row[a];
            row[a] = row[b];
            row[b] = kept;
        }
    }

    /** Nothing, or a row of cells of a lane. Its room is made once and used for each new row. */
    private static final class Sheet {
        final int[] cells = new int[MOST_CELLS];
        boolean hasRow;
        private int lane;
        private int length;

        void begin(int newLane, int newLength) {
            hasRow = true;
            lane = newLane;
            length = Math.min(Math.max(newLength, 0), MOST_CELLS);
            for (int i = 0; i < MOST_CELLS; i++) {
                cells[i] = 0;
            }
        }

        int faultAsLane(int asLane) {
            if (!hasRow) {
                return NULL;
            }
            return lane == asLane ? NO_FAULT : CAST;
        }

        int faultOfCell(int i) {
            if (!hasRow) {
                return NULL;
            }
            return i >= 0 && i < length ? NO_FAULT : INDEX;
        }

        /** n is compared with what is left, as i and n together could wrap. */
        int faultOfCells(int i, int n) {
            if (!hasRow) {
                return NULL;
            }
            return i >= 0 && i <= length && n >= 0 && n <= length - i ? NO_FAULT : INDEX;
        }

        int faultOfCopy(int i, Sheet to, int j, int n) {
            if (!hasRow || !to.hasRow) {
                return NULL;
            }
            if (lane != to.lane) {
                return CAST;
            }
            int found = faultOfCells(i, n);
            return found == NO_FAULT ? to.faultOfCells(j, n) : found;
        }

        int getCell(int i) {
            return i >= 0 && i < length ? cells[i] : 0;
        }

        void setCell(int i, int v) {
            if (i >= 0 && i < length) {
                cells[i] = cut(v);
            }
        }

        private int cut(int v) {
            switch (lane) {
                case BYTES:
                    return (byte) v;
                case SHORTS:
                    return (short) v;
                default:
                    return v;
            }
        }
    }
}
