import java.math.BigInteger;
import java.util.ArrayDeque;
import java.util.ArrayList;
import java.util.Comparator;
import java.util.Deque;
import java.util.List;
import java.util.Random;
import java.util.TreeMap;
import java.util.TreeSet;
import java.util.function.Predicate;
import java.util.stream.Collectors;

/** Long random runs beside a second writing of the document, slow and with layers as real lists. */
public final class ModelTest {
    private static final int RUNS = 1500;
    private static final int CALLS = 512;

    public static void main(String[] args) {
        Due due = new Due();
        for (int run = 0; run < RUNS && due.isClean(); run++) {
            due.promise("run " + run);
            new Run(run, due).go();
        }
        due.end();
    }

    record Pt(int n, int x, int y, int w) {
        boolean in(int a, int b, int c, int d) {
            return a <= x && x <= b && c <= y && y <= d;
        }
    }

    static final Comparator<Pt> BY_PLACE =
        Comparator.comparingInt(Pt::x).thenComparingInt(Pt::y).thenComparingInt(Pt::n);

    /** All that undo brings back. */
    static final class World {
        TreeMap<Integer, Pt> points = new TreeMap<>();
        TreeMap<Integer, List<Pt>> layers = new TreeMap<>();
        TreeMap<Integer, List<Pt>> ghostLayers = new TreeMap<>();
        int carried, anew, kind, next;

        World copy() {
            World w = new World();
            w.points = new TreeMap<>(points);
            w.layers = new TreeMap<>(layers);
            w.ghostLayers = new TreeMap<>(ghostLayers);
            w.carried = carried;
            w.anew = anew;
            w.kind = kind;
            w.next = next;
            return w;
        }

        static int sum(TreeMap<Integer, List<Pt>> some) {
            return some.values().stream().mapToInt(List::size).sum();
        }

        int comeInto(TreeMap<Integer, List<Pt>> some, Pt p) {
            List<Pt> together = new ArrayList<>();
            together.add(p);
            int size = 1;
            while (some.containsKey(size)) {
                together.addAll(0, some.remove(size));
                size *= 2;
            }
            some.put(size, together);
            return together.size();
        }

        int come(int x, int y, int w) {
            Pt p = new Pt(next++, x, y, w);
            points.put(p.n, p);
            carried += comeInto(layers, p);
            return p.n;
        }

        int away(int n) {
            Pt p = points.remove(n);
            carried += comeInto(ghostLayers, p);
            if (sum(ghostLayers) > points.size()) {
                anew++;
                ghostLayers.clear();
                layers.clear();
                List<Pt> all = new ArrayList<>(points.values());
                int at = 0;
                for (int size = 64; size >= 1; size /= 2) {
                    if ((all.size() & size) != 0) {
                        layers.put(size, new ArrayList<>(all.subList(at, at + size)));
                        at += size;
                    }
                }
            }
            return p.w;
        }

        int counts(Pt p) {
            int[] by = new int[6];
            by[0] = 1;
            by[1] = p.w;
            by[2] = Math.floorMod(p.x + p.y, 2) == 0 ? by[0] : 0;
            by[3] = 2 * by[1];
            by[4] = p.y >= 0 ? by[1] : 0;
            by[5] = by[4] + p.n % 10;
            return by[kind];
        }
    }

    /** Reads a text by what may stand next, not by going down into its parts. */
    static final class Told {
        int fault = -1;
        final List<int[]> rectangles = new ArrayList<>();
        private final List<String> words = new ArrayList<>();
        private int at;

        Told(String text) {
            // s: a spot must come; o: behind a spot; 0..3: a number of a rectangle; c0..c3: behind it; e: ended
            String state = "s";
            Deque<Character> open = new ArrayDeque<>();
            int[] r = new int[4];
            while (at < text.length()) {
                char c = text.charAt(at);
                if (c == ' ') {
                    at++;
                    continue;
                }
                if (state.matches("[0-3]")) {
                    int i = state.charAt(0) - '0';
                    int end = at + (c == '-' ? 1 : 0);
                    int figures = end;
                    while (end < text.length() && Character.isDigit(text.charAt(end))) {
                        end++;
                    }
                    if (end == figures) {
                        fault = end;
                        return;
                    }
                    BigInteger v = new BigInteger(text.substring(at, end));
                    boolean far = v.abs().compareTo(BigInteger.valueOf(500)) > 0;
                    if (end - figures > 3 || far || i % 2 == 1 && v.intValue() < r[i - 1]) {
                        fault = at;
                        return;
                    }
                    r[i] = v.intValue();
                    state = "c" + i;
                    at = end;
                    continue;
                }
                if (state.startsWith("c")) {
                    int i = state.charAt(1) - '0';
                    if (c != (i == 3 ? ']' : ',')) {
                        fault = at;
                        return;
                    }
                    state = "" + (i + 1);
                    if (i == 3) {
                        words.add("r" + rectangles.size());
                        rectangles.add(r.clone());
                        closeNots(open);
                        state = "o";
                    }
                } else if (state.equals("s") && c == '[') {
                    state = "0";
                } else if (state.equals("s") && (c == '(' || c == '!') && open.size() < 12) {
                    open.push(c);
                    words.add("" + c);
                } else if (state.equals("o") && "+-&".indexOf(c) >= 0) {
                    words.add("" + c);
                    state = "s";
                } else if (state.equals("o") && c == ')' && !open.isEmpty()) {
                    open.pop();
                    words.add(")");
                    closeNots(open);
                } else if (state.equals("o") && c == ';' && open.isEmpty()) {
                    state = "e";
                } else {
                    fault = at;
                    return;
                }
                at++;
            }
            if (!state.equals("e")) {
                fault = text.length();
            }
        }

        private static void closeNots(Deque<Character> open) {
            while (!open.isEmpty() && open.peek() == '!') {
                open.pop();
            }
        }

        boolean has(int x, int y) {
            at = 0;
            return !words.isEmpty() && sum(x, y);
        }

        private boolean sum(int x, int y) {
            boolean v = product(x, y);
            while (at < words.size() && "+-".contains(words.get(at))) {
                boolean plus = words.get(at++).equals("+");
                boolean right = product(x, y);
                v = plus ? v || right : v && !right;
            }
            return v;
        }

        private boolean product(int x, int y) {
            boolean v = spot(x, y);
            while (at < words.size() && words.get(at).equals("&")) {
                at++;
                v = spot(x, y) && v;
            }
            return v;
        }

        private boolean spot(int x, int y) {
            String word = words.get(at++);
            if (word.equals("!")) {
                return !spot(x, y);
            }
            if (word.equals("(")) {
                boolean v = sum(x, y);
                at++;
                return v;
            }
            int[] r = rectangles.get(Integer.parseInt(word.substring(1)));
            return new Pt(0, x, y, 1).in(r[0], r[1], r[2], r[3]);
        }
    }

    /** The document, written a second time. */
    static final class Model {
        World world = new World();
        List<World> past = new ArrayList<>();
        World[] imageWorlds = new World[2];
        Told[] imageAreas = new Told[2];
        Told area = null;
        StringBuilder text = new StringBuilder();
        long above = 0, below = 1;
        int searches;
        int[] status = new int[3];

        int refuse(int why) {
            status[Due.BAD - why]++;
            return why;
        }

        void u() {
            past.add(world.copy());
            if (past.size() > 8) {
                past.remove(0);
            }
        }

        static boolean ok(int low, int high, int... values) {
            for (int v : values) {
                if (v < low || v > high) {
                    return false;
                }
            }
            return true;
        }

        static boolean rect(int a, int b, int c, int d) {
            return ok(-500, 500, a, b, c, d) && a <= b && c <= d;
        }

        List<Pt> all(Predicate<Pt> which) {
            return world.points.values().stream().filter(which).sorted(BY_PLACE).collect(Collectors.toList());
        }

        List<Pt> in(int a, int b, int c, int d) {
            return all(p -> p.in(a, b, c, d));
        }

        List<Pt> inArea() {
            return all(p -> area != null && area.has(p.x, p.y));
        }

        static int number(List<Pt> some, int k) {
            return k < some.size() ? some.get(k).n : Due.NONE;
        }

        int sum(List<Pt> some) {
            return some.stream().mapToInt(world::counts).sum();
        }

        int awayAll(List<Pt> some) {
            if (!some.isEmpty()) {
                u();
                some.forEach(p -> world.away(p.n));
            }
            return some.size();
        }

        int put(int x, int y, int w) {
            if (!ok(-500, 500, x, y) || !ok(1, 100, w)) {
                return refuse(Due.BAD);
            }
            if (world.points.size() == 60 || world.next > 9999) {
                return refuse(Due.FULL);
            }
            u();
            return world.come(x, y, w);
        }

        int take(int n) {
            if (!world.points.containsKey(n)) {
                return refuse(Due.BAD);
            }
            u();
            return world.away(n);
        }

        int move(int n, int x, int y) {
            if (!world.points.containsKey(n) || !ok(-500, 500, x, y)) {
                return refuse(Due.BAD);
            }
            if (world.next > 9999) {
                return refuse(Due.FULL);
            }
            u();
            int w = world.away(n);
            return world.come(x, y, w);
        }

        int scatter(int seed, int n) {
            if (!ok(0, 999999, seed) || !ok(1, 30, n)) {
                return refuse(Due.BAD);
            }
            if (world.points.size() + n > 60 || world.next + n > 10000) {
                return refuse(Due.FULL);
            }
            u();
            BigInteger x = BigInteger.valueOf(seed);
            for (int i = 0; i < n; i++) {
                int[] three = new int[3];
                for (int j = 0; j < 3; j++) {
                    x = x.multiply(BigInteger.valueOf(1103515245)).add(BigInteger.valueOf(12345))
                        .mod(BigInteger.ONE.shiftLeft(31));
                    three[j] = x.shiftRight(16).intValueExact();
                }
                world.come(three[0] % 1001 - 500, three[1] % 1001 - 500, 1 + three[2] % 100);
            }
            return world.points.size();
        }

        int sweep(int a, int b, int c, int d) {
            return rect(a, b, c, d) ? awayAll(in(a, b, c, d)) : refuse(Due.BAD);
        }

        int counter(int kind) {
            if (!ok(0, 5, kind)) {
                return refuse(Due.BAD);
            }
            u();
            int was = world.kind;
            world.kind = kind;
            return was;
        }

        int undo() {
            if (past.isEmpty()) {
                return refuse(Due.NO);
            }
            world = past.remove(past.size() - 1);
            return past.size();
        }

        int of(int n, int what) {
            Pt p = world.points.get(n);
            if (p == null || !ok(0, 3, what)) {
                return refuse(Due.BAD);
            }
            return new int[] {p.x, p.y, p.w, world.counts(p)}[what];
        }

        int nth(int k) {
            return k < 0 ? refuse(Due.BAD) : number(new ArrayList<>(world.points.values()), k);
        }

        int count(int a, int b, int c, int d) {
            if (!rect(a, b, c, d)) {
                return refuse(Due.BAD);
            }
            searches += world.layers.size() + world.ghostLayers.size();
            return sum(in(a, b, c, d));
        }

        int many(int a, int b, int c, int d) {
            return rect(a, b, c, d) ? in(a, b, c, d).size() : refuse(Due.BAD);
        }

        int kth(int a, int b, int c, int d, int k) {
            return rect(a, b, c, d) && k >= 0 ? number(in(a, b, c, d), k) : refuse(Due.BAD);
        }

        int half(int a, int b, int c, int d) {
            if (!rect(a, b, c, d)) {
                return refuse(Due.BAD);
            }
            int m = in(a, b, c, d).size();
            for (int s = a; s <= b && m > 0; s++) {
                if (2 * in(a, s, c, d).size() >= m) {
                    return s;
                }
            }
            return Due.NONE;
        }

        int below(int x, int y) {
            return ok(-500, 500, x, y) ? all(p -> p.x <= x && p.y <= y).size() : refuse(Due.BAD);
        }

        int ring(int x, int y, int k) {
            if (!ok(-500, 500, x, y) || !ok(1, 60, k)) {
                return refuse(Due.BAD);
            }
            if (world.points.size() < k) {
                return Due.NONE;
            }
            int r = 0;
            while (in(x - r, x + r, y - r, y + r).size() < k) {
                r++;
            }
            return r;
        }

        int near(int x, int y) {
            if (!ok(-500, 500, x, y)) {
                return refuse(Due.BAD);
            }
            return world.points.values().stream()
                .min(Comparator.comparingInt((Pt p) -> Math.max(Math.abs(p.x - x), Math.abs(p.y - y)))
                    .thenComparingInt(Pt::n))
                .map(Pt::n).orElse(Due.NONE);
        }

        int strip(int what) {
            if (!ok(0, 1, what)) {
                return refuse(Due.BAD);
            }
            TreeSet<Integer> xs = new TreeSet<>();
            world.points.values().forEach(p -> xs.add(p.x));
            int wide = 0;
            int left = Due.NONE;
            for (int x : xs) {
                Integer right = xs.higher(x);
                if (right != null && right - x > wide) {
                    wide = right - x;
                    left = x;
                }
            }
            return wide == 0 ? Due.NONE : what == 0 ? wide : left;
        }

        int square(int s, int what) {
            if (!ok(0, 300, s) || !ok(0, 2, what)) {
                return refuse(Due.BAD);
            }
            TreeSet<Integer> xs = new TreeSet<>();
            TreeSet<Integer> ys = new TreeSet<>();
            world.points.values().forEach(p -> xs.add(p.x));
            world.points.values().forEach(p -> ys.add(p.y));
            int[] best = {0, 0, 0};
            for (int x : xs) {
                for (int y : ys) {
                    int has = 0;
                    for (Pt p : world.points.values()) {
                        has += p.in(x, x + s, y, y + s) ? 1 : 0;
                    }
                    if (has > best[0]) {
                        best = new int[] {has, x, y};
                    }
                }
            }
            return best[0] == 0 ? Due.NONE : best[what];
        }

        int pairs() {
            int n = 0;
            for (Pt p : world.points.values()) {
                n += all(q -> p.x < q.x && p.y < q.y).size();
            }
            return n;
        }

        int stair(int k) {
            if (k < -1) {
                return refuse(Due.BAD);
            }
            List<Pt> stairs = all(p -> world.points.values().stream()
                .noneMatch(q -> q.x >= p.x && q.y >= p.y && !(q.x == p.x && q.y == p.y)));
            return k == -1 ? stairs.size() : number(stairs, k);
        }

        int layers(int what) {
            if (!ok(0, 4, what)) {
                return refuse(Due.BAD);
            }
            return new int[] {World.sum(world.layers), World.sum(world.ghostLayers), world.carried, searches,
                world.anew}[what];
        }

        int inLayer(int size, int what, int a, int b, int c, int d) {
            if (!List.of(1, 2, 4, 8, 16, 32, 64).contains(size) || !ok(0, 1, what) || !rect(a, b, c, d)) {
                return refuse(Due.BAD);
            }
            List<Pt> layer = (what == 0 ? world.layers : world.ghostLayers).get(size);
            return layer == null ? Due.NONE : (int) layer.stream().filter(p -> p.in(a, b, c, d)).count();
        }

        int type(int c) {
            if (!ok(0, 127, c)) {
                return refuse(Due.BAD);
            }
            if (text.length() == 120) {
                return refuse(Due.FULL);
            }
            return text.append((char) c).length();
        }

        int clear() {
            int had = text.length();
            text.setLength(0);
            return had;
        }

        int area() {
            Told told = new Told(text.toString());
            if (told.fault >= 0) {
                return -10 - told.fault;
            }
            area = told;
            return told.rectangles.size();
        }

        int inside() {
            return sum(inArea());
        }

        int covers(int x, int y) {
            return !ok(-500, 500, x, y) ? refuse(Due.BAD) : area != null && area.has(x, y) ? 1 : 0;
        }

        int found(int k) {
            return k < 0 ? refuse(Due.BAD) : number(inArea(), k);
        }

        int mow() {
            return awayAll(inArea());
        }

        int odds(int a, int b, int c, int d, int k, int p) {
            if (!rect(a, b, c, d) || !ok(0, 15, k) || !ok(0, 10, p)) {
                return refuse(Due.BAD);
            }
            int n = in(a, b, c, d).size();
            if (n > 15) {
                return refuse(Due.NO);
            }
            BigInteger[] ways = new BigInteger[17];
            java.util.Arrays.fill(ways, BigInteger.ZERO);
            ways[0] = BigInteger.ONE;
            for (int i = 0; i < n; i++) {
                for (int j = 15; j >= 0; j--) {
                    ways[j + 1] = ways[j + 1].multiply(BigInteger.valueOf(10 - p))
                        .add(ways[j].multiply(BigInteger.valueOf(p)));
                }
                ways[0] = ways[0].multiply(BigInteger.valueOf(10 - p));
            }
            BigInteger up = BigInteger.ZERO;
            for (int j = k; j <= 16; j++) {
                up = up.add(ways[j]);
            }
            BigInteger down = BigInteger.TEN.pow(n);
            BigInteger shared = up.gcd(down);
            above = up.divide(shared).longValueExact();
            below = down.divide(shared).longValueExact();
            return 1;
        }

        long part(int what) {
            return !ok(0, 1, what) ? refuse(Due.BAD) : what == 0 ? above : below;
        }

        int image(int i) {
            if (!ok(0, 1, i)) {
                return refuse(Due.BAD);
            }
            imageWorlds[i] = world.copy();
            imageAreas[i] = area;
            return 1;
        }

        int from(int i) {
            if (!ok(0, 1, i)) {
                return refuse(Due.BAD);
            }
            if (imageWorlds[i] == null) {
                return refuse(Due.NO);
            }
            world = imageWorlds[i].copy();
            area = imageAreas[i];
            past.clear();
            return 1;
        }

        int status(int what) {
            if (!ok(0, 2, what)) {
                refuse(Due.BAD);
                return -1;
            }
            return status[what];
        }

        int size(int what) {
            if (!ok(0, 7, what)) {
                return refuse(Due.BAD);
            }
            return new int[] {world.points.size(), World.sum(world.ghostLayers), world.next, world.kind,
                world.points.values().stream().mapToInt(Pt::w).sum(), past.size(), text.length(),
                area == null ? 0 : area.rectangles.size()}[what];
        }

        long digest() {
            List<Long> values = new ArrayList<>();
            for (int i = 0; i <= 7; i++) {
                values.add((long) size(i));
            }
            for (int i = 0; i <= 4; i++) {
                values.add((long) layers(i));
            }
            for (Pt p : world.points.values()) {
                values.add((long) p.n);
                for (int i = 0; i <= 3; i++) {
                    values.add((long) of(p.n, i));
                }
            }
            values.add(above);
            values.add(below);
            long h = 1901;
            for (long v : values) {
                h = 31 * h + v;
            }
            return h;
        }
    }

    /** One run: the same calls for both. */
    static final class Run {
        private final PointLayers p = new PointLayers();
        private final Model m = new Model();
        private final Random random;
        private final Due due;
        private final int range;
        private final int wrongOf;
        private final boolean busy;
        private int calls;

        Run(int seed, Due due) {
            this.due = due;
            random = new Random(seed);
            range = new int[] {2, 5, 20, 500}[seed % 4];
            wrongOf = new int[] {8, 40, 1000}[seed % 3];
            busy = seed % 5 == 0;
        }

        void go() {
            // A step may be of two calls.
            while (calls < CALLS - 1) {
                if (busy && random.nextInt(3) > 0) {
                    churn();
                } else {
                    step();
                }
            }
        }

        private void check(String call, long got, long want) {
            calls++;
            due.due("call " + calls + " " + call, got, want);
        }

        private int wrong(int v) {
            if (random.nextInt(wrongOf) != 0) {
                return v;
            }
            int[] odd = {-1, -2, 501, -501, Integer.MAX_VALUE, Integer.MIN_VALUE, 0, 61, 31, 128, 11, 16, 3, 8, v + 1};
            return odd[random.nextInt(odd.length)];
        }

        private int axis() {
            return wrong(random.nextInt(2 * range + 1) - range);
        }

        private int[] box() {
            int[] r = {axis(), axis(), axis(), axis()};
            if (random.nextInt(wrongOf) != 0) {
                r = new int[] {Math.min(r[0], r[1]), Math.max(r[0], r[1]), Math.min(r[2], r[3]), Math.max(r[2], r[3])};
            }
            return random.nextInt(6) == 0 ? new int[] {-500, 500, -500, 500} : r;
        }

        private int number() {
            if (m.world.points.isEmpty() || random.nextInt(8) == 0) {
                return random.nextInt(m.world.next + 2) - 1;
            }
            List<Integer> all = new ArrayList<>(m.world.points.keySet());
            return all.get(random.nextInt(all.size()));
        }

        private int place() {
            return wrong(random.nextInt(m.world.points.size() + 2));
        }

        /** Points coming and going fast: numbers come to an end, all is laid anew often. */
        private void churn() {
            int[] r = {-500, 500, -500, 500};
            int seed = random.nextInt(1000000);
            int n = random.nextInt(4) == 0 ? 1 + random.nextInt(30) : 30;
            if (m.world.points.size() + n <= 60) {
                check("scatter", p.scatter(seed, n), m.scatter(seed, n));
            } else if (random.nextInt(3) > 0) {
                check("sweep", p.sweep(r[0], r[1], r[2], r[3]), m.sweep(r[0], r[1], r[2], r[3]));
            } else {
                int k = number();
                check("take", p.take(k), m.take(k));
            }
        }

        private void step() {
            switch (random.nextInt(9)) {
                case 0, 1, 2 -> points();
                case 3, 4 -> rectangles();
                case 5 -> layers();
                case 6, 7 -> areas();
                default -> rest();
            }
        }

        private void points() {
            int x = axis(), y = axis(), n = number();
            switch (random.nextInt(12)) {
                case 0, 1, 2 -> {
                    int w = wrong(1 + random.nextInt(100));
                    check("put " + x + " " + y + " " + w, p.put(x, y, w), m.put(x, y, w));
                }
                case 3, 4 -> check("take " + n, p.take(n), m.take(n));
                case 5, 6 -> check("move " + n + " " + x + " " + y, p.move(n, x, y), m.move(n, x, y));
                case 7 -> {
                    int seed = wrong(random.nextInt(1000000)), many = wrong(1 + random.nextInt(30));
                    check("scatter " + seed + " " + many, p.scatter(seed, many), m.scatter(seed, many));
                }
                case 8 -> {
                    int[] r = box();
                    check("sweep", p.sweep(r[0], r[1], r[2], r[3]), m.sweep(r[0], r[1], r[2], r[3]));
                }
                case 9 -> {
                    int kind = wrong(random.nextInt(6));
                    check("counter " + kind, p.counter(kind), m.counter(kind));
                }
                case 10 -> check("undo", p.undo(), m.undo());
                default -> {
                    int what = wrong(random.nextInt(4)), k = place();
                    check("of " + n + " " + what, p.of(n, what), m.of(n, what));
                    check("nth " + k, p.nth(k), m.nth(k));
                }
            }
        }

        private void rectangles() {
            int[] r = box();
            int x = axis(), y = axis(), k = place();
            switch (random.nextInt(11)) {
                case 0 -> check("count", p.count(r[0], r[1], r[2], r[3]), m.count(r[0], r[1], r[2], r[3]));
                case 1 -> check("many", p.many(r[0], r[1], r[2], r[3]), m.many(r[0], r[1], r[2], r[3]));
                case 2 -> check("kth", p.kth(r[0], r[1], r[2], r[3], k), m.kth(r[0], r[1], r[2], r[3], k));
                case 3 -> check("half", p.half(r[0], r[1], r[2], r[3]), m.half(r[0], r[1], r[2], r[3]));
                case 4 -> check("below", p.below(x, y), m.below(x, y));
                case 5 -> check("ring", p.ring(x, y, k), m.ring(x, y, k));
                case 6 -> check("near", p.near(x, y), m.near(x, y));
                case 7 -> {
                    int what = wrong(random.nextInt(2));
                    check("strip " + what, p.strip(what), m.strip(what));
                }
                case 8 -> {
                    int s = wrong(random.nextInt(Math.min(301, 2 * range))), what = wrong(random.nextInt(3));
                    check("square " + s + " " + what, p.square(s, what), m.square(s, what));
                }
                case 9 -> check("pairs", p.pairs(), m.pairs());
                default -> {
                    int which = wrong(random.nextInt(8) - 1);
                    check("stair " + which, p.stair(which), m.stair(which));
                }
            }
        }

        private void layers() {
            if (random.nextBoolean()) {
                int what = wrong(random.nextInt(5));
                check("layers " + what, p.layers(what), m.layers(what));
                return;
            }
            int[] r = box();
            int size = wrong(1 << random.nextInt(7)), what = wrong(random.nextInt(2));
            check("inLayer " + size + " " + what, p.inLayer(size, what, r[0], r[1], r[2], r[3]),
                m.inLayer(size, what, r[0], r[1], r[2], r[3]));
        }

        private void areas() {
            int x = axis(), y = axis(), k = place();
            switch (random.nextInt(14)) {
                case 0 -> newText();
                case 1 -> {
                    int c = wrong(random.nextInt(128));
                    check("type " + c, p.type(c), m.type(c));
                }
                case 2 -> check("clear", p.clear(), m.clear());
                case 3, 4 -> check("area '" + m.text + "'", p.area(), m.area());
                case 5, 6 -> check("inside", p.inside(), m.inside());
                case 7, 8, 9 -> check("covers", p.covers(x, y), m.covers(x, y));
                case 10, 11, 12 -> check("found", p.found(k), m.found(k));
                default -> check("mow", p.mow(), m.mow());
            }
        }

        private void newText() {
            if (calls > CALLS - 130) {
                return;
            }
            check("clear", p.clear(), m.clear());
            StringBuilder text = new StringBuilder(areaText(0)).append(';');
            if (random.nextInt(3) == 0) {
                spoil(text);
            }
            for (int i = 0; i < text.length() && i < 125; i++) {
                check("type", p.type(text.charAt(i)), m.type(text.charAt(i)));
            }
            check("area '" + m.text + "'", p.area(), m.area());
        }

        private void spoil(StringBuilder text) {
            String signs = "0123456789-+&!()[],; 5-9";
            int at = random.nextInt(text.length());
            char c = signs.charAt(random.nextInt(signs.length()));
            switch (random.nextInt(4)) {
                case 0 -> text.deleteCharAt(at);
                case 1 -> text.setCharAt(at, c);
                case 2 -> text.insert(at, c);
                default -> text.setLength(at);
            }
        }

        private String blank() {
            return random.nextInt(12) == 0 ? " " : "";
        }

        private String areaText(int depth) {
            StringBuilder text = new StringBuilder(partText(depth));
            while (random.nextInt(3) == 0) {
                text.append(blank()).append(random.nextBoolean() ? '+' : '-').append(partText(depth));
            }
            return text.toString();
        }

        private String partText(int depth) {
            StringBuilder text = new StringBuilder(spotText(depth));
            while (random.nextInt(4) == 0) {
                text.append('&').append(blank()).append(spotText(depth));
            }
            return text.toString();
        }

        private String spotText(int depth) {
            int which = random.nextInt(10);
            if (depth < 14 && which < 3) {
                return "!" + blank() + spotText(depth + 1);
            }
            if (depth < 14 && which < 5) {
                return "(" + areaText(depth + 1) + blank() + ")";
            }
            int[] r = box();
            return "[" + blank() + r[0] + "," + r[1] + blank() + "," + blank() + r[2] + "," + r[3] + "]" + blank();
        }

        private void rest() {
            int i = wrong(random.nextInt(2));
            switch (random.nextInt(7)) {
                case 0 -> {
                    int[] r = box();
                    int k = wrong(random.nextInt(16)), c = wrong(random.nextInt(11));
                    check("odds " + k + " " + c, p.odds(r[0], r[1], r[2], r[3], k, c),
                        m.odds(r[0], r[1], r[2], r[3], k, c));
                }
                case 1 -> check("part " + i, p.part(i), m.part(i));
                case 2 -> check("image " + i, p.image(i), m.image(i));
                case 3 -> check("from " + i, p.from(i), m.from(i));
                case 4 -> check("status", p.status(i), m.status(i));
                case 5 -> {
                    int what = wrong(random.nextInt(8));
                    check("size " + what, p.size(what), m.size(what));
                }
                default -> check("digest", p.digest(), m.digest());
            }
        }
    }
}
