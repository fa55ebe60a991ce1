/** Points of a field that are counted in rectangles, come and go; DOC.md tells all that can be seen of it. */
public final class PointLayers {
    public static final int NONE = -2000000001, BAD = -2000000002, NO = -2000000003, FULL = -2000000004;

    private static final int EDGE = 500;
    private static final int POINTS_MOST = 60;
    private static final int NUMBER_MOST = 9999;
    private static final int WEIGHT_MOST = 100;
    private static final int KIND_MOST = 5;
    private static final int SCATTER_MOST = 30;
    private static final int SEED_MOST = 999999;
    private static final int SIDE_MOST = 300;
    private static final int LAYER_MOST = 64;
    private static final int UNDO_MOST = 8;
    private static final int IMAGES = 2;
    private static final int SIGN_MOST = 127;
    private static final int TEXT_MOST = 120;
    private static final int DEEP_MOST = 12;
    private static final int ODDS_MOST = 15;
    private static final int TENTHS = 10;
    private static final int FAULT_BASE = -10;

    private final Field field;
    private final History history;
    private final Picks picks;
    private final Picks heights;
    private final Shape box;
    private final Shape shape;
    private final Reader reader;
    private final Fraction fraction;
    private final Image[] kept;
    private int searches;
    private int refusedBad;
    private int refusedNo;
    private int refusedFull;

    public PointLayers() {
        field = new Field();
        history = new History();
        picks = new Picks();
        heights = new Picks();
        box = new Shape();
        shape = new Shape();
        reader = new Reader();
        fraction = new Fraction();
        kept = new Image[IMAGES];
        for (int i = 0; i < IMAGES; i++) {
            kept[i] = new Image();
        }
    }

    // ---- points

    public int put(int x, int y, int w) {
        if (!isPlace(x, y) || w < 1 || w > WEIGHT_MOST) {
            return refuse(BAD);
        }
        if (field.there() >= POINTS_MOST || !field.hasNumbers(1)) {
            return refuse(FULL);
        }
        history.keep(field);
        return field.come(x, y, w);
    }

    public int take(int n) {
        int i = field.find(n);
        if (i < 0) {
            return refuse(BAD);
        }
        history.keep(field);
        return field.goAway(i);
    }

    public int move(int n, int x, int y) {
        int i = field.find(n);
        if (i < 0 || !isPlace(x, y)) {
            return refuse(BAD);
        }
        if (!field.hasNumbers(1)) {
            return refuse(FULL);
        }
        history.keep(field);
        int weight = field.goAway(i);
        return field.come(x, y, weight);
    }

    public int scatter(int seed, int n) {
        if (seed < 0 || seed > SEED_MOST || n < 1 || n > SCATTER_MOST) {
            return refuse(BAD);
        }
        if (field.there() + n > POINTS_MOST || !field.hasNumbers(n)) {
            return refuse(FULL);
        }
        history.keep(field);
        long drawn = seed;
        for (int i = 0; i < n; i++) {
            drawn = draw(drawn);
            int x = leftOver(drawn, 2 * EDGE + 1) - EDGE;
            drawn = draw(drawn);
            int y = leftOver(drawn, 2 * EDGE + 1) - EDGE;
            drawn = draw(drawn);
            field.come(x, y, 1 + leftOver(drawn, WEIGHT_MOST));
        }
        return field.there();
    }

    public int sweep(int a, int b, int c, int d) {
        if (!isRectangle(a, b, c, d)) {
            return refuse(BAD);
        }
        pickRectangle(a, b, c, d);
        return takePicked();
    }

    public int counter(int kind) {
        if (kind < 0 || kind > KIND_MOST) {
            return refuse(BAD);
        }
        history.keep(field);
        int was = field.kind;
        field.kind = kind;
        return was;
    }

    public int undo() {
        if (history.known == 0) {
            return refuse(NO);
        }
        history.bringBack(field);
        return history.known;
    }

    public int of(int n, int what) {
        int i = field.find(n);
        if (i < 0 || what < 0 || what > 3) {
            return refuse(BAD);
        }
        switch (what) {
            case 0: return field.xs[i];
            case 1: return field.ys[i];
            case 2: return field.weights[i];
            default: return field.worth(i);
        }
    }

    public int nth(int k) {
        if (k < 0) {
            return refuse(BAD);
        }
        picks.pickAll(field);
        return picks.numberOf(field, k);
    }

    // ---- rectangles

    public int count(int a, int b, int c, int d) {
        if (!isRectangle(a, b, c, d)) {
            return refuse(BAD);
        }
        searches += field.layersThere();
        pickRectangle(a, b, c, d);
        return picks.worthOfAll(field);
    }

    public int many(int a, int b, int c, int d) {
        if (!isRectangle(a, b, c, d)) {
            return refuse(BAD);
        }
        pickRectangle(a, b, c, d);
        return picks.filled;
    }

    public int kth(int a, int b, int c, int d, int k) {
        if (!isRectangle(a, b, c, d) || k < 0) {
            return refuse(BAD);
        }
        pickRectangle(a, b, c, d);
        picks.sortByPlace(field);
        return picks.numberOf(field, k);
    }

    public int half(int a, int b, int c, int d) {
        if (!isRectangle(a, b, c, d)) {
            return refuse(BAD);
        }
        pickRectangle(a, b, c, d);
        if (picks.filled == 0) {
            return NONE;
        }
        picks.sortByPlace(field);
        int needed = (picks.filled + 1) / 2;
        return field.xs[picks.row[needed - 1]];
    }

    public int below(int x, int y) {
        if (!isPlace(x, y)) {
            return refuse(BAD);
        }
        pickRectangle(-EDGE, x, -EDGE, y);
        return picks.filled;
    }

    public int ring(int x, int y, int k) {
        if (!isPlace(x, y) || k < 1 || k > POINTS_MOST) {
            return refuse(BAD);
        }
        picks.pickAll(field);
        int best = NONE;
        for (int i = 0; i < picks.filled; i++) {
            int r = field.distance(picks.row[i], x, y);
            if ((best == NONE || r < best) && picks.within(field, x, y, r) >= k) {
                best = r;
            }
        }
        return best;
    }

    public int near(int x, int y) {
        if (!isPlace(x, y)) {
            return refuse(BAD);
        }
        picks.pickAll(field);
        int best = NONE;
        int least = 2 * EDGE + 1;
        for (int i = 0; i < picks.filled; i++) {
            int r = field.distance(picks.row[i], x, y);
            if (r < least) {
                least = r;
                best = field.numbers[picks.row[i]];
            }
        }
        return best;
    }

    public int strip(int what) {
        if (what < 0 || what > 1) {
            return refuse(BAD);
        }
        picks.pickAll(field);
        picks.sortByPlace(field);
        int wide = 0;
        int left = 0;
        for (int i = 1; i < picks.filled; i++) {
            int from = field.xs[picks.row[i - 1]];
            int gap = field.xs[picks.row[i]] - from;
            if (gap > wide) {
                wide = gap;
                left = from;
            }
        }
        if (wide == 0) {
            return NONE;
        }
        return what == 0 ? wide : left;
    }

    public int square(int s, int what) {
        if (s < 0 || s > SIDE_MOST || what < 0 || what > 2) {
            return refuse(BAD);
        }
        picks.pickAll(field);
        picks.sortByPlace(field);
        heights.pickAll(field);
        heights.sortByHeight(field);
        int most = 0;
        int bestX = 0;
        int bestY = 0;
        for (int i = 0; i < picks.filled; i++) {
            int x = field.xs[picks.row[i]];
            int y = heights.fullestFrom(field, x, s);
            int has = heights.inSquare(field, x, y, s);
            if (has > most) {
                most = has;
                bestX = x;
                bestY = y;
            }
        }
        if (most == 0) {
            return NONE;
        }
        return what == 0 ? most : what == 1 ? bestX : bestY;
    }

    public int pairs() {
        picks.pickAll(field);
        int found = 0;
        for (int i = 0; i < picks.filled; i++) {
            for (int j = 0; j < picks.filled; j++) {
                if (field.isLess(picks.row[i], picks.row[j])) {
                    found++;
                }
            }
        }
        return found;
    }

    public int stair(int k) {
        if (k < -1) {
            return refuse(BAD);
        }
        picks.pickAll(field);
        heights.pickStairs(field, picks);
        if (k == -1) {
            return heights.filled;
        }
        heights.sortByPlace(field);
        return heights.numberOf(field, k);
    }

    // ---- layers

    public int layers(int what) {
        switch (what) {
            case 0: return field.laid;
            case 1: return field.ghosts;
            case 2: return field.carried;
            case 3: return searches;
            case 4: return field.anew;
            default: return refuse(BAD);
        }
    }

    public int inLayer(int size, int what, int a, int b, int c, int d) {
        boolean isSize = size >= 1 && size <= LAYER_MOST && Integer.bitCount(size) == 1;
        if (!isSize || what < 0 || what > 1 || !isRectangle(a, b, c, d)) {
            return refuse(BAD);
        }
        box.becomeRectangle(a, b, c, d);
        return field.hasInLayer(size, what == 1, box);
    }

    // ---- areas

    public int type(int c) {
        if (c < 0 || c > SIGN_MOST) {
            return refuse(BAD);
        }
        if (reader.length >= TEXT_MOST) {
            return refuse(FULL);
        }
        reader.append(c);
        return reader.length;
    }

    public int clear() {
        int had = reader.length;
        reader.length = 0;
        return had;
    }

    public int area() {
        int fault = reader.read();
        if (fault >= 0) {
            return FAULT_BASE - fault;
        }
        shape.copyFrom(reader.draft);
        return shape.rectangles;
    }

    public int inside() {
        picks.pickShape(field, shape);
        return picks.worthOfAll(field);
    }

    public int covers(int x, int y) {
        if (!isPlace(x, y)) {
            return refuse(BAD);
        }
        return shape.holds(x, y) ? 1 : 0;
    }

    public int found(int k) {
        if (k < 0) {
            return refuse(BAD);
        }
        picks.pickShape(field, shape);
        picks.sortByPlace(field);
        return picks.numberOf(field, k);
    }

    public int mow() {
        picks.pickShape(field, shape);
        return takePicked();
    }

    // ---- odds, what there is

    public int odds(int a, int b, int c, int d, int k, int p) {
        if (!isRectangle(a, b, c, d) || k < 0 || k > ODDS_MOST || p < 0 || p > TENTHS) {
            return refuse(BAD);
        }
        pickRectangle(a, b, c, d);
        if (picks.filled > ODDS_MOST) {
            return refuse(NO);
        }
        fraction.becomeOdds(picks.filled, k, p);
        return 1;
    }

    public long part(int what) {
        switch (what) {
            case 0: return fraction.above;
            case 1: return fraction.below;
            default: return refuse(BAD);
        }
    }

    public int image(int i) {
        if (i < 0 || i >= IMAGES) {
            return refuse(BAD);
        }
        kept[i].keep(field, shape);
        return 1;
    }

    public int from(int i) {
        if (i < 0 || i >= IMAGES) {
            return refuse(BAD);
        }
        if (!kept[i].isKept) {
            return refuse(NO);
        }
        kept[i].bringBack(field, shape);
        history.forget();
        return 1;
    }

    public int status(int what) {
        switch (what) {
            case 0: return refusedBad;
            case 1: return refusedNo;
            case 2: return refusedFull;
            default:
                refuse(BAD);
                return -1;
        }
    }

    public int size(int what) {
        switch (what) {
            case 0: return field.there();
            case 1: return field.ghosts;
            case 2: return field.next;
            case 3: return field.kind;
            case 4: return field.weightOfAll();
            case 5: return history.known;
            case 6: return reader.length;
            case 7: return shape.rectangles;
            default: return refuse(BAD);
        }
    }

    public long digest() {
        long h = 1901;
        for (int what = 0; what <= 7; what++) {
            h = 31 * h + size(what);
        }
        for (int what = 0; what <= 4; what++) {
            h = 31 * h + layers(what);
        }
        for (int i = 0; i < field.laid; i++) {
            if (field.isThere(i)) {
                h = 31 * h + field.numbers[i];
                h = 31 * h + field.xs[i];
                h = 31 * h + field.ys[i];
                h = 31 * h + field.weights[i];
                h = 31 * h + field.worth(i);
            }
        }
        h = 31 * h + fraction.above;
        return 31 * h + fraction.below;
    }

    // ---- what several calls use

    private int refuse(int why) {
        if (why == BAD) {
            refusedBad++;
        } else if (why == NO) {
            refusedNo++;
        } else {
            refusedFull++;
        }
        return why;
    }

    private void pickRectangle(int a, int b, int c, int d) {
        box.becomeRectangle(a, b, c, d);
        picks.pickShape(field, box);
    }

    private int takePicked() {
        int gone = picks.filled;
        if (gone == 0) {
            return 0;
        }
        history.keep(field);
        picks.sortByPlace(field);
        // Laying anew moves the points within the rows: only their numbers stay.
        picks.turnToNumbers(field);
        for (int i = 0; i < gone; i++) {
            field.goAway(field.find(picks.row[i]));
        }
        return gone;
    }

    private static boolean isOnAxis(int v) {
        return v >= -EDGE && v <= EDGE;
    }

    private static boolean isPlace(int x, int y) {
        return isOnAxis(x) && isOnAxis(y);
    }

    private static boolean isRectangle(int a, int b, int c, int d) {
        return isPlace(a, b) && isPlace(c, d) && a <= b && c <= d;
    }

    private static long draw(long drawn) {
        return (drawn * 1103515245L + 12345L) % 2147483648L;
    }

    private static int leftOver(long drawn, int by) {
        return by < 1 ? 0 : (int) (drawn / 65536L % by);
    }

    /**
     * All that undo and images bring back of the points. The rows hold the layers one behind the other,
     * the greatest first: as layers are carried like figures, how many are laid tells them all.
     */
    private static final class Field {
        // Ghosts are never more than points, but for the one that has all laid anew.
        private static final int LAID_MOST = 2 * POINTS_MOST + 1;

        private final int[] numbers = new int[LAID_MOST];
        private final int[] xs = new int[LAID_MOST];
        private final int[] ys = new int[LAID_MOST];
        private final int[] weights = new int[LAID_MOST];
        // 0: still there; else it was the so-manieth to become a ghost.
        private final int[] goneAs = new int[LAID_MOST];
        private int laid;
        private int ghosts;
        private int carried;
        private int anew;
        private int kind;
        private int next;

        int there() {
            return laid - ghosts;
        }

        boolean hasNumbers(int n) {
            return next + n - 1 <= NUMBER_MOST;
        }

        boolean isThere(int i) {
            return goneAs[i] == 0;
        }

        int layersThere() {
            return Integer.bitCount(laid) + Integer.bitCount(ghosts);
        }

        int find(int number) {
            for (int i = 0; i < laid; i++) {
                if (numbers[i] == number && isThere(i)) {
                    return i;
                }
            }
            return -1;
        }

        int come(int x, int y, int weight) {
            if (laid >= LAID_MOST) {
                return FULL;
            }
            numbers[laid] = next;
            xs[laid] = x;
            ys[laid] = y;
            weights[laid] = weight;
            goneAs[laid] = 0;
            laid++;
            carried += newestLayer(laid);
            next++;
            return next - 1;
        }

        int goAway(int i) {
            if (i < 0 || i >= laid) {
                return BAD;
            }
            int weight = weights[i];
            ghosts++;
            goneAs[i] = ghosts;
            carried += newestLayer(ghosts);
            if (ghosts > there()) {
                layAnew();
            }
            return weight;
        }

        private void layAnew() {
            int stay = 0;
            for (int i = 0; i < laid; i++) {
                if (isThere(i)) {
                    numbers[stay] = numbers[i];
                    xs[stay] = xs[i];
                    ys[stay] = ys[i];
                    weights[stay] = weights[i];
                    goneAs[stay] = 0;
                    stay++;
                }
            }
            laid = stay;
            ghosts = 0;
            anew++;
        }

        int worth(int i) {
            switch (kind) {
                case 1: return weights[i];
                case 2: return (xs[i] + ys[i]) % 2 == 0 ? 1 : 0;
                case 3: return 2 * weights[i];
                case 4: return north(i);
                case 5: return north(i) + numbers[i] % 10;
                default: return 1;
            }
        }

        private int north(int i) {
            return ys[i] >= 0 ? weights[i] : 0;
        }

        int weightOfAll() {
            int sum = 0;
            for (int i = 0; i < laid; i++) {
                if (isThere(i)) {
                    sum += weights[i];
                }
            }
            return sum;
        }

        int distance(int i, int x, int y) {
            return Math.max(Math.abs(xs[i] - x), Math.abs(ys[i] - y));
        }

        boolean isLess(int i, int j) {
            return xs[i] < xs[j] && ys[i] < ys[j];
        }

        boolean isTopped(int i, int j) {
            return xs[j] >= xs[i] && ys[j] >= ys[i] && (xs[j] != xs[i] || ys[j] != ys[i]);
        }

        boolean isBeforeByPlace(int i, int j) {
            if (xs[i] != xs[j]) {
                return xs[i] < xs[j];
            }
            if (ys[i] != ys[j]) {
                return ys[i] < ys[j];
            }
            return numbers[i] < numbers[j];
        }

        int hasInLayer(int size, boolean ofGhosts, Shape where) {
            int sum = ofGhosts ? ghosts : laid;
            if ((sum & size) == 0) {
                return NONE;
            }
            int first = layerStart(sum, size);
            int has = 0;
            for (int i = 0; i < laid; i++) {
                int nth = ofGhosts ? goneAs[i] - 1 : i;
                if (nth >= first && nth < first + size && where.holds(xs[i], ys[i])) {
                    has++;
                }
            }
            return has;
        }

        // As figures are carried, the layer made last is the lowest bit of the sum.
        private static int newestLayer(int sum) {
            return sum & -sum;
        }

        // All greater layers stand ahead of it: those are the bits above its own.
        private static int layerStart(int sum, int size) {
            return sum & -(2 * size);
        }

        void copyFrom(Field other) {
            int n = other.laid;
            System.arraycopy(other.numbers, 0, numbers, 0, n);
            System.arraycopy(other.xs, 0, xs, 0, n);
            System.arraycopy(other.ys, 0, ys, 0, n);
            System.arraycopy(other.weights, 0, weights, 0, n);
            System.arraycopy(other.goneAs, 0, goneAs, 0, n);
            laid = n;
            ghosts = other.ghosts;
            carried = other.carried;
            anew = other.anew;
            kind = other.kind;
            next = other.next;
        }
    }

    /** The fields as they were ahead of the last calls that changed them, the oldest giving way. */
    private static final class History {
        private final Field[] slots = new Field[UNDO_MOST];
        private int oldest;
        private int known;

        History() {
            for (int i = 0; i < UNDO_MOST; i++) {
                slots[i] = new Field();
            }
        }

        void keep(Field now) {
            slots[(oldest + known) % UNDO_MOST].copyFrom(now);
            if (known < UNDO_MOST) {
                known++;
            } else {
                oldest = (oldest + 1) % UNDO_MOST;
            }
        }

        void bringBack(Field now) {
            if (known > 0) {
                known--;
                now.copyFrom(slots[(oldest + known) % UNDO_MOST]);
            }
        }

        void forget() {
            known = 0;
        }
    }

    /** Points that a call has to do with, as places in the field's rows; one row serves all calls. */
    private static final class Picks {
        private final int[] row = new int[POINTS_MOST];
        private int filled;

        private void add(int i) {
            if (filled < POINTS_MOST) {
                row[filled] = i;
                filled++;
            }
        }

        void pickAll(Field field) {
            filled = 0;
            for (int i = 0; i < field.laid; i++) {
                if (field.isThere(i)) {
                    add(i);
                }
            }
        }

        void pickShape(Field field, Shape where) {
            filled = 0;
            for (int i = 0; i < field.laid; i++) {
                if (field.isThere(i) && where.holds(field.xs[i], field.ys[i])) {
                    add(i);
                }
            }
        }

        void pickStairs(Field field, Picks all) {
            filled = 0;
            for (int i = 0; i < all.filled; i++) {
                if (!all.tops(field, all.row[i])) {
                    add(all.row[i]);
                }
            }
        }

        private boolean tops(Field field, int i) {
            for (int j = 0; j < filled; j++) {
                if (field.isTopped(i, row[j])) {
                    return true;
                }
            }
            return false;
        }

        void sortByPlace(Field field) {
            sort(field, false);
        }

        void sortByHeight(Field field) {
            sort(field, true);
        }

        private void sort(Field field, boolean byHeight) {
            for (int i = 1; i < filled; i++) {
                int moved = row[i];
                int to = i;
                while (to > 0 && isBefore(field, moved, row[to - 1], byHeight)) {
                    row[to] = row[to - 1];
                    to--;
                }
                row[to] = moved;
            }
        }

        private static boolean isBefore(Field field, int i, int j, boolean byHeight) {
            return byHeight ? field.ys[i] < field.ys[j] : field.isBeforeByPlace(i, j);
        }

        void turnToNumbers(Field field) {
            for (int i = 0; i < filled; i++) {
                row[i] = field.numbers[row[i]];
            }
        }

        int numberOf(Field field, int k) {
            return k >= 0 && k < filled ? field.numbers[row[k]] : NONE;
        }

        int worthOfAll(Field field) {
            int sum = 0;
            for (int i = 0; i < filled; i++) {
                sum += field.worth(row[i]);
            }
            return sum;
        }

        int within(Field field, int x, int y, int r) {
            int has = 0;
            for (int i = 0; i < filled; i++) {
                if (field.distance(row[i], x, y) <= r) {
                    has++;
                }
            }
            return has;
        }

        int inSquare(Field field, int x, int y, int s) {
            int has = 0;
            for (int i = 0; i < filled; i++) {
                int px = field.xs[row[i]];
                int py = field.ys[row[i]];
                if (px >= x && px <= x + s && py >= y && py <= y + s) {
                    has++;
                }
            }
            return has;
        }

        /** The least Y of a point from which a square that begins at x has most; sorted by height ahead of it. */
        int fullestFrom(Field field, int x, int s) {
            int most = -1;
            int best = 0;
            int has = 0;
            int over = 0;
            int under = 0;
            for (int i = 0; i < filled; i++) {
                int y = field.ys[row[i]];
                while (over < filled && field.ys[row[over]] <= y + s) {
                    has += inColumn(field, over, x, s);
                    over++;
                }
                while (under < filled && field.ys[row[under]] < y) {
                    has -= inColumn(field, under, x, s);
                    under++;
                }
                if (has > most) {
                    most = has;
                    best = y;
                }
            }
            return best;
        }

        private int inColumn(Field field, int i, int x, int s) {
            int px = field.xs[row[i]];
            return px >= x && px <= x + s ? 1 : 0;
        }
    }

    /** An area as steps behind one another: a rectangle is laid on the heap of answers, a sign takes from it. */
    private static final class Shape {
        private static final int NOT = -1;
        private static final int BOTH = -2;
        private static final int EITHER = -3;
        private static final int LESS = -4;
        // A rectangle takes nine bytes and one more to go on or to end.
        private static final int RECTANGLES_MOST = TEXT_MOST / 10;
        private static final int SIDES = 4;

        private final int[] steps = new int[TEXT_MOST];
        private final int[] sides = new int[SIDES * RECTANGLES_MOST];
        private int filled;
        private int rectangles;

        void empty() {
            filled = 0;
            rectangles = 0;
        }

        void becomeRectangle(int a, int b, int c, int d) {
            empty();
            addRectangle(a, b, c, d);
        }

        void addRectangle(int a, int b, int c, int d) {
            if (rectangles >= RECTANGLES_MOST) {
                return;
            }
            int first = SIDES * rectangles;
            sides[first] = a;
            sides[first + 1] = b;
            sides[first + 2] = c;
            sides[first + 3] = d;
            addStep(rectangles);
            rectangles++;
        }

        void addStep(int step) {
            if (filled < TEXT_MOST) {
                steps[filled] = step;
                filled++;
            }
        }

        boolean holds(int x, int y) {
            // The heap is the bits of a number, its top the lowest: no more answers wait than rectangles are.
            int heap = 0;
            for (int i = 0; i < filled; i++) {
                int step = steps[i];
                if (step >= 0) {
                    heap = heap << 1 | (inRectangle(step, x, y) ? 1 : 0);
                } else if (step == NOT) {
                    heap = heap ^ 1;
                } else {
                    heap = join(heap, step);
                }
            }
            return (heap & 1) == 1;
        }

        private static int join(int heap, int step) {
            int right = heap & 1;
            int rest = heap >> 1;
            if (step == BOTH) {
                return rest & (right | ~1);
            }
            if (step == EITHER) {
                return rest | right;
            }
            return rest & ~right;
        }

        private boolean inRectangle(int step, int x, int y) {
            if (step >= rectangles) {
                return false;
            }
            int first = SIDES * step;
            return x >= sides[first] && x <= sides[first + 1] && y >= sides[first + 2] && y <= sides[first + 3];
        }

        void copyFrom(Shape other) {
            System.arraycopy(other.steps, 0, steps, 0, other.filled);
            System.arraycopy(other.sides, 0, sides, 0, SIDES * other.rectangles);
            filled = other.filled;
            rectangles = other.rectangles;
        }
    }

    /** THE TEXT, and how it is read: from the left on, each sign once, into a draft. */
    private static final class Reader {
        private static final int END = -1;
        private static final int FIGURES_MOST = 3;

        private final int[] signs = new int[TEXT_MOST];
        private final Shape draft = new Shape();
        private int length;
        private int at;
        private int fault;

        void append(int sign) {
            if (length < TEXT_MOST) {
                signs[length] = sign;
                length++;
            }
        }

        /** The FAULT, or -1: the draft is whole. */
        int read() {
            at = 0;
            fault = -1;
            draft.empty();
            readArea(0);
            expect(';');
            if (nextSign() != END) {
                fail(at);
            }
            return fault;
        }

        private void readArea(int depth) {
            readPart(depth);
            for (int turn = 0; turn < TEXT_MOST && (nextSign() == '+' || nextSign() == '-'); turn++) {
                int step = nextSign() == '+' ? Shape.EITHER : Shape.LESS;
                at++;
                readPart(depth);
                draft.addStep(step);
            }
        }

        private void readPart(int depth) {
            readSpot(depth);
            for (int turn = 0; turn < TEXT_MOST && nextSign() == '&'; turn++) {
                at++;
                readSpot(depth);
                draft.addStep(Shape.BOTH);
            }
        }

        private void readSpot(int depth) {
            int sign = nextSign();
            if (sign == '[') {
                readRectangle();
            } else if (sign == '(' && depth < DEEP_MOST) {
                at++;
                readArea(depth + 1);
                expect(')');
            } else if (sign == '!' && depth < DEEP_MOST) {
                at++;
                readSpot(depth + 1);
                draft.addStep(Shape.NOT);
            } else {
                fail(at);
            }
        }

        private void readRectangle() {
            expect('[');
            int a = readNumber(-EDGE);
            expect(',');
            int b = readNumber(a);
            expect(',');
            int c = readNumber(-EDGE);
            expect(',');
            int d = readNumber(c);
            expect(']');
            if (fault < 0) {
                draft.addRectangle(a, b, c, d);
            }
        }

        private int readNumber(int least) {
            boolean minus = nextSign() == '-';
            int first = at;
            if (minus) {
                at++;
            }
            int value = 0;
            int figures = 0;
            while (at < length && isFigure(signs[at])) {
                if (figures < FIGURES_MOST) {
                    value = 10 * value + signs[at] - '0';
                }
                figures++;
                at++;
            }
            if (figures == 0) {
                fail(at);
                return least;
            }
            int number = minus ? -value : value;
            if (figures > FIGURES_MOST || number < least || number > EDGE) {
                fail(first);
                return least;
            }
            return number;
        }

        private static boolean isFigure(int sign) {
            return sign >= '0' && sign <= '9';
        }

        /** The sign behind blanks; none behind a fault, so that all reading ends there. */
        private int nextSign() {
            if (fault >= 0) {
                return END;
            }
            while (at < length && signs[at] == ' ') {
                at++;
            }
            return at < length ? signs[at] : END;
        }

        private void expect(int sign) {
            if (nextSign() == sign) {
                at++;
            } else {
                fail(at);
            }
        }

        private void fail(int place) {
            if (fault < 0) {
                fault = place;
            }
        }
    }

    /** THE FRACTION, always in lowest terms. */
    private static final class Fraction {
        // Two numbers below ten to the fifteenth come to an end far earlier.
        private static final int TURNS_MOST = 200;

        private long above = 0;
        private long below = 1;

        void becomeOdds(int points, int k, int awake) {
            long ways = 1;
            long sum = 0;
            for (int j = 0; j <= points; j++) {
                if (j >= k) {
                    sum += ways * power(awake, j) * power(TENTHS - awake, points - j);
                }
                ways = ways * (points - j) / (j + 1);
            }
            long all = power(TENTHS, points);
            long shared = divisorOf(sum, all);
            if (shared > 0) {
                above = sum / shared;
                below = all / shared;
            }
        }

        private static long power(long base, int times) {
            long product = 1;
            for (int i = 0; i < times; i++) {
                product *= base;
            }
            return product;
        }

        private static long divisorOf(long one, long other) {
            long a = one;
            long b = other;
            for (int i = 0; i < TURNS_MOST && b != 0; i++) {
                long left = a % b;
                a = b;
                b = left;
            }
            return a;
        }
    }

    /** What image keeps: the points with their layers and THE COUNTER, and THE AREA. */
    private static final class Image {
        private final Field field = new Field();
        private final Shape shape = new Shape();
        private boolean isKept;

        void keep(Field nowField, Shape nowShape) {
            field.copyFrom(nowField);
            shape.copyFrom(nowShape);
            isKept = true;
        }

        void bringBack(Field nowField, Shape nowShape) {
            nowField.copyFrom(field);
            nowShape.copyFrom(shape);
        }
    }
}
