/** Promises 11 to 23. */
public final class RectanglesTest {
    private static final Due D = new Due();
    private static final int LOW = -500, HIGH = 500;

    public static void main(String[] args) {
        count();
        many();
        kth();
        half();
        below();
        ring();
        near();
        strip();
        square();
        pairs();
        stair();
        layers();
        inLayer();
        D.end();
    }

    private static PointLayers of(int... places) {
        PointLayers p = new PointLayers();
        for (int i = 0; i + 1 < places.length; i += 2) {
            p.put(places[i], places[i + 1], 1 + i / 2);
        }
        return p;
    }

    private static void count() {
        D.promise("11 count");
        PointLayers p = of(0, 0, 10, 10, 20, 20);
        p.counter(1);
        D.due("edges are in it", p.count(0, 10, 0, 10), 3);
        D.due("two layers", p.layers(3), 2);
        D.due("just beside", p.count(1, 19, 1, 9), 0);
        D.due("two more", p.layers(3), 4);
        p.take(1);
        D.due("gone", p.count(0, 20, 0, 20), 4);
        D.due("two and one of ghosts", p.layers(3), 7);
        D.due("BAD", p.count(0, 501, 0, 0), Due.BAD);
        D.due("BAD", p.count(0, -1, 0, 0), Due.BAD);
        D.due("BAD", p.count(0, 0, 0, -1), Due.BAD);
        D.due("refused: no search", p.layers(3), 7);
        p.many(0, 20, 0, 20);
        p.inside();
        D.due("other calls do not search", p.layers(3), 7);
        PointLayers q = new PointLayers();
        D.due("nothing", q.count(LOW, HIGH, LOW, HIGH), 0);
        D.due("no layers", q.layers(3), 0);
    }

    private static void many() {
        D.promise("12 many");
        PointLayers p = of(0, 0, 0, 0, 10, 10, -3, 7);
        p.counter(1);
        D.due("two alike", p.many(0, 0, 0, 0), 2);
        D.due("all", p.many(LOW, HIGH, LOW, HIGH), 4);
        p.take(0);
        D.due("one gone", p.many(0, 0, 0, 0), 1);
        D.due("BAD", p.many(1, 0, 0, 0), Due.BAD);
        D.due("BAD", p.many(0, 0, -501, 0), Due.BAD);
    }

    private static void kth() {
        D.promise("13 kth");
        PointLayers p = of(5, 5, 5, 4, -1, 9, 5, 4, 7, 0);
        int[] byPlace = {2, 1, 3, 0, 4};
        for (int k = 0; k < 5; k++) {
            D.due("k " + k, p.kth(LOW, HIGH, LOW, HIGH, k), byPlace[k]);
        }
        D.due("one more", p.kth(LOW, HIGH, LOW, HIGH, 5), Due.NONE);
        D.due("far", p.kth(LOW, HIGH, LOW, HIGH, Integer.MAX_VALUE), Due.NONE);
        D.due("in a small one", p.kth(0, 6, 5, 5, 0), 0);
        D.due("k below 0", p.kth(LOW, HIGH, LOW, HIGH, -1), Due.BAD);
        D.due("BAD", p.kth(LOW, 501, LOW, HIGH, 0), Due.BAD);
    }

    private static void half() {
        D.promise("14 half");
        PointLayers p = of(-10, 0, 0, 0, 4, 0, 9, 0, 9, 400);
        D.due("2 of 4", p.half(LOW, HIGH, 0, 0), 0);
        D.due("3 of 5", p.half(LOW, HIGH, LOW, HIGH), 4);
        D.due("1 of 1", p.half(9, 9, 1, 500), 9);
        D.due("2 of 3", p.half(0, 9, 0, 0), 4);
        D.due("none", p.half(1, 3, LOW, HIGH), Due.NONE);
        D.due("BAD", p.half(3, 1, LOW, HIGH), Due.BAD);
        PointLayers q = of(9, 0, 4, 0, -10, 0, 0, 0, 9, 400);
        D.due("3 of 5, put in no order", q.half(LOW, HIGH, LOW, HIGH), 4);
        D.due("one at the left edge of all", of(-500, 3).half(LOW, -500, LOW, HIGH), -500);
    }

    private static void below() {
        D.promise("15 below");
        PointLayers p = of(0, 0, 1, 0, 0, 1, -500, -500);
        D.due("0, 0", p.below(0, 0), 2);
        D.due("1, 0", p.below(1, 0), 3);
        D.due("1, 1", p.below(1, 1), 4);
        D.due("edge", p.below(-500, -500), 1);
        D.due("BAD", p.below(501, 0), Due.BAD);
        D.due("BAD", p.below(0, -501), Due.BAD);
    }

    private static void ring() {
        D.promise("16 ring");
        PointLayers p = of(-500, -500, 500, 500, 3, -7, 3, -7);
        D.due("far end", p.ring(500, 500, 4), 1000);
        D.due("one at it", p.ring(500, 500, 1), 0);
        D.due("two at it", p.ring(3, -7, 2), 0);
        D.due("by the greater distance", p.ring(0, 0, 1), 7);
        D.due("too many", p.ring(0, 0, 5), Due.NONE);
        D.due("60", p.ring(0, 0, 60), Due.NONE);
        D.due("k low", p.ring(0, 0, 0), Due.BAD);
        D.due("k high", p.ring(0, 0, 61), Due.BAD);
        D.due("x", p.ring(-501, 0, 1), Due.BAD);
        D.due("y", p.ring(0, 501, 1), Due.BAD);
    }

    private static void near() {
        D.promise("17 near");
        PointLayers p = of(10, 0, 0, 10, 6, 6);
        D.due("6, 6 by the greater", p.near(0, 0), 2);
        p.take(2);
        D.due("like ones: least number", p.near(0, 0), 0);
        D.due("other", p.near(-1, 11), 1);
        D.due("BAD", p.near(0, 501), Due.BAD);
        D.due("BAD", p.near(-501, 0), Due.BAD);
        D.due("none", new PointLayers().near(0, 0), Due.NONE);
        D.due("as far as can be", of(500, 500).near(-500, -500), 0);
    }

    private static void strip() {
        D.promise("18 strip");
        PointLayers p = of(0, 0, 5, 1, 10, 2, 12, 3);
        D.due("wide", p.strip(0), 5);
        D.due("leftmost", p.strip(1), 0);
        p.take(1);
        D.due("wider", p.strip(0), 10);
        D.due("what low", p.strip(-1), Due.BAD);
        D.due("what high", p.strip(2), Due.BAD);
        PointLayers q = of(4, 0, 4, 9, 4, -9);
        D.due("all have one X", q.strip(0), Due.NONE);
        D.due("all have one X", q.strip(1), Due.NONE);
        D.due("no points", new PointLayers().strip(0), Due.NONE);
        PointLayers r = of(500, 0, -500, 0);
        D.due("all the field", r.strip(0), 1000);
        D.due("from its left", r.strip(1), -500);
    }

    private static void square() {
        D.promise("19 square");
        PointLayers p = of(0, 0, 10, 10, 300, 300);
        D.due("two", p.square(10, 0), 2);
        D.due("x", p.square(10, 1), 0);
        D.due("y", p.square(10, 2), 0);
        D.due("one each: least x", p.square(9, 0), 1);
        D.due("x", p.square(9, 1), 0);
        D.due("three", p.square(300, 0), 3);
        D.due("s low", p.square(-1, 0), Due.BAD);
        D.due("s high", p.square(301, 0), Due.BAD);
        D.due("what low", p.square(0, -1), Due.BAD);
        D.due("what high", p.square(0, 3), Due.BAD);
        D.due("none", new PointLayers().square(5, 0), Due.NONE);
        // X of one and Y of another: only from 0, 0 are both in it, where no point is.
        PointLayers q = of(0, 7, 7, 0);
        D.due("both", q.square(7, 0), 2);
        D.due("x", q.square(7, 1), 0);
        D.due("y", q.square(7, 2), 0);
        // The least Y may be that of a point far beside.
        PointLayers r = of(0, 5, 400, 2);
        D.due("one", r.square(3, 0), 1);
        D.due("x", r.square(3, 1), 0);
        D.due("y", r.square(3, 2), 2);
        // Put in no order, with as many from two X and two Y each: the least ones.
        PointLayers u = of(50, 50, 55, 52, 20, 90, 24, 95, 20, 10, 24, 12, 400, 11, 0, 300);
        D.due("two", u.square(5, 0), 2);
        D.due("x", u.square(5, 1), 20);
        D.due("y", u.square(5, 2), 10);
        // Many beside the column do not count: three lie above one another elsewhere.
        PointLayers v = of(0, 0, 1, 1, 200, 20, 210, 21, 220, 22, 0, 100);
        D.due("two", v.square(2, 0), 2);
        D.due("x", v.square(2, 1), 0);
        D.due("y", v.square(2, 2), 0);
        PointLayers t = of(9, 9, 9, 9, 9, 9, 0, 0);
        D.due("like places", t.square(0, 0), 3);
        D.due("x", t.square(0, 1), 9);
    }

    private static void pairs() {
        D.promise("20 pairs");
        D.due("no points", new PointLayers().pairs(), 0);
        PointLayers p = of(0, 0, 1, 1, 2, 2, 0, 5, 5, 0, 1, 1);
        // 0 below 1, 2, 5; 1 and 5 below 2; the others share an X or a Y, or fall.
        D.due("pairs", p.pairs(), 5);
        p.take(2);
        D.due("without 2", p.pairs(), 2);
        D.due("the first above the second", of(5, 5, 4, 4).pairs(), 1);
    }

    private static void stair() {
        D.promise("21 stair");
        PointLayers p = of(5, 5, 5, 5, 0, 9, 9, 0, 4, 5, 5, 4, -3, 9);
        D.due("how many", p.stair(-1), 4);
        int[] stairs = {2, 0, 1, 3};
        for (int k = 0; k < 4; k++) {
            D.due("k " + k, p.stair(k), stairs[k]);
        }
        D.due("not so many", p.stair(4), Due.NONE);
        D.due("far", p.stair(Integer.MAX_VALUE), Due.NONE);
        D.due("BAD", p.stair(-2), Due.BAD);
        D.due("the first is above the second", of(5, 5, 4, 4).stair(-1), 1);
        D.due("the second is above the first", of(4, 4, 5, 5).stair(0), 1);
        D.due("no points", new PointLayers().stair(-1), 0);
        D.due("no points", new PointLayers().stair(0), Due.NONE);
    }

    private static void layers() {
        D.promise("22 layers");
        PointLayers p = new PointLayers();
        int[] carried = {1, 3, 4, 8, 9, 11, 12, 20};
        for (int i = 0; i < 8; i++) {
            p.put(i, i, 1);
            D.due("sum", p.layers(0), i + 1);
            D.due("carried", p.layers(2), carried[i]);
        }
        int[] withGhosts = {21, 23, 24, 28};
        for (int i = 0; i < 4; i++) {
            p.take(i);
            D.due("sum stays", p.layers(0), 8);
            D.due("ghosts", p.layers(1), i + 1);
            D.due("ghosts are carried too", p.layers(2), withGhosts[i]);
            D.due("as many ghosts as points: not anew", p.layers(4), 0);
        }
        p.take(4);
        D.due("anew", p.layers(4), 1);
        D.due("points alone", p.layers(0), 3);
        D.due("no ghosts", p.layers(1), 0);
        D.due("only the ghost was carried", p.layers(2), 29);
        p.put(0, 0, 1);
        D.due("three and one make four", p.layers(2), 33);
        D.due("what low", p.layers(-1), Due.BAD);
        D.due("what high", p.layers(5), Due.BAD);
    }

    private static void inLayer() {
        D.promise("23 inLayer");
        PointLayers p = new PointLayers();
        for (int i = 0; i < 7; i++) {
            p.put(i, -i, 1);
        }
        D.due("first four", p.inLayer(4, 0, 0, 3, -3, 0), 4);
        D.due("not the fifth", p.inLayer(4, 0, 4, 6, -6, 0), 0);
        D.due("next two", p.inLayer(2, 0, 4, 5, -5, -4), 2);
        D.due("last", p.inLayer(1, 0, 6, 6, -6, -6), 1);
        D.due("none of 8", p.inLayer(8, 0, LOW, HIGH, LOW, HIGH), Due.NONE);
        D.due("no ghosts", p.inLayer(1, 1, LOW, HIGH, LOW, HIGH), Due.NONE);
        p.take(5);
        p.take(0);
        p.take(3);
        D.due("taken away ones are counted", p.inLayer(4, 0, LOW, HIGH, LOW, HIGH), 4);
        D.due("ghosts as they became such", p.inLayer(2, 1, 5, 5, -5, -5) + p.inLayer(2, 1, 0, 0, 0, 0), 2);
        D.due("the third", p.inLayer(1, 1, 3, 3, -3, -3), 1);
        D.due("not the third", p.inLayer(2, 1, LOW, HIGH, LOW, HIGH), 2);
        p.take(1);
        D.due("laid anew: no ghosts", p.inLayer(4, 1, LOW, HIGH, LOW, HIGH), Due.NONE);
        D.due("two by numbers: 2, 4", p.inLayer(2, 0, 2, 4, -4, -2), 2);
        D.due("then 6", p.inLayer(1, 0, 6, 6, -6, -6), 1);
        int[] noSizes = {0, -1, 3, 6, 63, 65, 128, Integer.MIN_VALUE, Integer.MAX_VALUE};
        for (int size : noSizes) {
            D.due("size " + size, p.inLayer(size, 0, 0, 0, 0, 0), Due.BAD);
        }
        D.due("64", p.inLayer(64, 0, 0, 0, 0, 0), Due.NONE);
        D.due("what low", p.inLayer(1, -1, 0, 0, 0, 0), Due.BAD);
        D.due("what high", p.inLayer(1, 2, 0, 0, 0, 0), Due.BAD);
        D.due("rectangle", p.inLayer(1, 0, 0, 0, 1, 0), Due.BAD);
        mostLaid();
    }

    /** The fullest state: 60 points, 59 ghosts. */
    private static void mostLaid() {
        PointLayers p = new PointLayers();
        for (int i = 0; i < 60; i++) {
            p.put(i, 0, 1);
        }
        for (int i = 0; i < 59; i++) {
            p.move(i, i, 1);
        }
        D.due("119 are laid", p.layers(0), 119);
        D.due("59 ghosts", p.layers(1), 59);
        D.due("64: the first 60 and 4", p.inLayer(64, 0, LOW, HIGH, 0, 0), 60);
        D.due("64: the first 60 and 4", p.inLayer(64, 0, 0, 3, 1, 1), 4);
        D.due("32 ghosts", p.inLayer(32, 1, 0, 31, 0, 0), 32);
        p.count(0, 0, 0, 0);
        D.due("6 layers, 5 of ghosts", p.layers(3), 11);
        p.move(59, 59, 1);
        D.due("anew", p.layers(4), 1);
        D.due("60 are laid", p.layers(0), 60);
        D.due("no ghosts", p.layers(1), 0);
    }
}
