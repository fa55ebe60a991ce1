import java.util.function.LongSupplier;

/** A refused call answers why, adds one to STATUS, and changes nothing else: of all promises that tell BAD, NO, FULL. */
public final class RefusalsTest {
    private static final Due D = new Due();
    private static final int[] FAR = {Integer.MIN_VALUE, -501, 501, Integer.MAX_VALUE};
    private static final int[][] NO_RECTANGLES = {{1, 0, 0, 0}, {0, 0, 1, 0}, {-501, 0, 0, 0}, {0, 501, 0, 0},
        {0, 0, -501, 0}, {0, 0, 0, 501}, {Integer.MIN_VALUE, Integer.MAX_VALUE, 0, 0}};

    private static PointLayers p;

    public static void main(String[] args) {
        full();
        wrongNumbers();
        wrongPlaces();
        wrongRectangles();
        none();
        D.end();
    }

    private static void refused(String call, int why, LongSupplier asked) {
        int kind = Due.BAD - why;
        int had = p.status(kind);
        int others = p.status(0) + p.status(1) + p.status(2) - had;
        long digest = p.digest();
        D.due(call, asked.getAsLong(), why);
        D.due(call + " in STATUS", p.status(kind), had + 1);
        D.due(call + " in no other STATUS", p.status(0) + p.status(1) + p.status(2) - p.status(kind), others);
        D.due(call + " changes nothing", p.digest(), digest);
    }

    private static void made() {
        p = new PointLayers();
        p.scatter(9, 20);
        p.take(3);
        p.count(0, 0, 0, 0);
        p.odds(-50, 50, -50, 50, 1, 3);
        p.image(0);
        Due.tell(p, "[0,1,0,1];");
    }

    private static void full() {
        D.promise("FULL");
        made();
        p.scatter(9, 30);
        p.scatter(9, 11);
        refused("put", Due.FULL, () -> p.put(0, 0, 1));
        refused("scatter", Due.FULL, () -> p.scatter(0, 1));
        for (int i = 10; i < 120; i++) {
            p.type(' ');
        }
        refused("type", Due.FULL, () -> p.type(' '));
        refused("type, BAD first", Due.BAD, () -> p.type(-1));
        refused("odds", Due.NO, () -> p.odds(-500, 500, -500, 500, 0, 0));
        refused("odds, BAD first", Due.BAD, () -> p.odds(-500, 500, -500, 500, 16, 0));
    }

    private static void wrongNumbers() {
        D.promise("BAD, a number");
        made();
        refused("take", Due.BAD, () -> p.take(3));
        refused("take", Due.BAD, () -> p.take(20));
        refused("move", Due.BAD, () -> p.move(3, 0, 0));
        refused("of", Due.BAD, () -> p.of(3, 0));
        refused("counter", Due.BAD, () -> p.counter(6));
        refused("counter", Due.BAD, () -> p.counter(-1));
        refused("nth", Due.BAD, () -> p.nth(-1));
        refused("kth", Due.BAD, () -> p.kth(0, 0, 0, 0, -1));
        refused("stair", Due.BAD, () -> p.stair(-2));
        refused("found", Due.BAD, () -> p.found(-1));
        refused("put, weight", Due.BAD, () -> p.put(0, 0, 0));
        refused("put, weight", Due.BAD, () -> p.put(0, 0, 101));
        refused("scatter", Due.BAD, () -> p.scatter(-1, 1));
        refused("scatter", Due.BAD, () -> p.scatter(1000000, 1));
        refused("scatter", Due.BAD, () -> p.scatter(1, 31));
        refused("ring", Due.BAD, () -> p.ring(0, 0, 0));
        refused("ring", Due.BAD, () -> p.ring(0, 0, 61));
        refused("square", Due.BAD, () -> p.square(301, 0));
        refused("square", Due.BAD, () -> p.square(-1, 0));
        refused("inLayer", Due.BAD, () -> p.inLayer(3, 0, 0, 0, 0, 0));
        refused("inLayer", Due.BAD, () -> p.inLayer(128, 0, 0, 0, 0, 0));
        refused("type", Due.BAD, () -> p.type(128));
        refused("odds", Due.BAD, () -> p.odds(0, 0, 0, 0, -1, 0));
        refused("odds", Due.BAD, () -> p.odds(0, 0, 0, 0, 0, 11));
        refused("image", Due.BAD, () -> p.image(2));
        refused("from", Due.BAD, () -> p.from(-1));
        for (int what : new int[] {Integer.MIN_VALUE, -1, 8, Integer.MAX_VALUE}) {
            refused("of, what", Due.BAD, () -> p.of(0, what));
            refused("strip", Due.BAD, () -> p.strip(what));
            refused("square, what", Due.BAD, () -> p.square(0, what));
            refused("layers", Due.BAD, () -> p.layers(what));
            refused("inLayer, what", Due.BAD, () -> p.inLayer(1, what, 0, 0, 0, 0));
            refused("part", Due.BAD, () -> p.part(what));
            refused("size", Due.BAD, () -> p.size(what));
            int had = p.status(0);
            D.due("status", p.status(what), -1);
            D.due("status counts as BAD", p.status(0), had + 1);
        }
    }

    private static void wrongPlaces() {
        D.promise("BAD, a place");
        made();
        for (int far : FAR) {
            refused("put x", Due.BAD, () -> p.put(far, 0, 1));
            refused("put y", Due.BAD, () -> p.put(0, far, 1));
            refused("move x", Due.BAD, () -> p.move(0, far, 0));
            refused("move y", Due.BAD, () -> p.move(0, 0, far));
            refused("below x", Due.BAD, () -> p.below(far, 0));
            refused("below y", Due.BAD, () -> p.below(0, far));
            refused("ring x", Due.BAD, () -> p.ring(far, 0, 1));
            refused("ring y", Due.BAD, () -> p.ring(0, far, 1));
            refused("near x", Due.BAD, () -> p.near(far, 0));
            refused("near y", Due.BAD, () -> p.near(0, far));
            refused("covers x", Due.BAD, () -> p.covers(far, 0));
            refused("covers y", Due.BAD, () -> p.covers(0, far));
        }
    }

    private static void wrongRectangles() {
        D.promise("BAD, a rectangle");
        made();
        for (int[] r : NO_RECTANGLES) {
            refused("sweep", Due.BAD, () -> p.sweep(r[0], r[1], r[2], r[3]));
            refused("count", Due.BAD, () -> p.count(r[0], r[1], r[2], r[3]));
            refused("many", Due.BAD, () -> p.many(r[0], r[1], r[2], r[3]));
            refused("kth", Due.BAD, () -> p.kth(r[0], r[1], r[2], r[3], 0));
            refused("half", Due.BAD, () -> p.half(r[0], r[1], r[2], r[3]));
            refused("inLayer", Due.BAD, () -> p.inLayer(1, 0, r[0], r[1], r[2], r[3]));
            refused("odds", Due.BAD, () -> p.odds(r[0], r[1], r[2], r[3], 0, 0));
        }
    }

    private static void none() {
        D.promise("NO");
        p = new PointLayers();
        refused("undo", Due.NO, () -> p.undo());
        refused("from 0", Due.NO, () -> p.from(0));
        refused("from 1", Due.NO, () -> p.from(1));
        p.scatter(1, 16);
        refused("odds", Due.NO, () -> p.odds(-500, 500, -500, 500, 1, 1));
    }
}
