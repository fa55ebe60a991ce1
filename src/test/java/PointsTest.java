/** Promises 1 to 10. */
public final class PointsTest {
    private static final Due D = new Due();

    public static void main(String[] args) {
        newObject();
        put();
        take();
        move();
        scatter();
        sweep();
        counter();
        undo();
        of();
        nth();
        D.end();
    }

    private static void newObject() {
        D.promise("1 new object");
        PointLayers p = new PointLayers();
        for (int what = 0; what <= 7; what++) {
            D.due("size " + what, p.size(what), 0);
        }
        for (int what = 0; what <= 4; what++) {
            D.due("layers " + what, p.layers(what), 0);
        }
        for (int what = 0; what <= 2; what++) {
            D.due("status " + what, p.status(what), 0);
        }
        D.due("part 0", p.part(0), 0);
        D.due("part 1", p.part(1), 1);
        D.due("covers", p.covers(0, 0), 0);
        D.due("undo", p.undo(), Due.NO);
        D.due("from 0", p.from(0), Due.NO);
        D.due("from 1", p.from(1), Due.NO);
        D.due("nth", p.nth(0), Due.NONE);
        D.due("area", p.area(), -10);
    }

    private static void put() {
        D.promise("2 put");
        PointLayers p = new PointLayers();
        D.due("low edge", p.put(-500, -500, 1), 0);
        D.due("high edge", p.put(500, 500, 100), 1);
        D.due("like place", p.put(500, 500, 100), 2);
        D.due("x low", p.put(-501, 0, 1), Due.BAD);
        D.due("x high", p.put(501, 0, 1), Due.BAD);
        D.due("y low", p.put(0, -501, 1), Due.BAD);
        D.due("y high", p.put(0, 501, 1), Due.BAD);
        D.due("w low", p.put(0, 0, 0), Due.BAD);
        D.due("w high", p.put(0, 0, 101), Due.BAD);
        D.due("far", p.put(Integer.MIN_VALUE, Integer.MAX_VALUE, Integer.MIN_VALUE), Due.BAD);
        D.due("bad ones", p.status(0), 7);
        D.due("may be undone", p.size(5), 3);
        for (int i = 3; i < 60; i++) {
            D.due("put " + i, p.put(i, -i, i), i);
        }
        D.due("61st", p.put(0, 0, 1), Due.FULL);
        D.due("BAD ahead of FULL", p.put(501, 0, 1), Due.BAD);
        D.due("points", p.size(0), 60);
        D.due("full ones", p.status(2), 1);
        D.due("a refused one can not be undone", p.undo(), 7);
        D.due("points", p.size(0), 59);
        D.due("again", p.put(0, 0, 1), 59);
    }

    private static void take() {
        D.promise("3 take");
        PointLayers p = new PointLayers();
        D.due("none", p.take(0), Due.BAD);
        p.put(1, 2, 33);
        p.put(1, 2, 44);
        D.due("minus", p.take(-1), Due.BAD);
        D.due("next", p.take(2), Due.BAD);
        D.due("first", p.take(0), 33);
        D.due("gone", p.take(0), Due.BAD);
        D.due("points", p.size(0), 1);
        D.due("ghosts", p.size(1), 1);
        D.due("number is not given again", p.put(0, 0, 5), 2);
        D.due("second", p.take(1), 44);
        D.due("U", p.undo(), 4);
        D.due("back", p.of(1, 2), 44);
    }

    private static void move() {
        D.promise("4 move");
        PointLayers p = new PointLayers();
        p.put(1, 2, 33);
        D.due("no such", p.move(1, 0, 0), Due.BAD);
        D.due("x", p.move(0, 501, 0), Due.BAD);
        D.due("y", p.move(0, 0, -501), Due.BAD);
        D.due("moved", p.move(0, -500, 500), 1);
        D.due("x now", p.of(1, 0), -500);
        D.due("y now", p.of(1, 1), 500);
        D.due("its weight", p.of(1, 2), 33);
        D.due("the old one", p.of(0, 0), Due.BAD);
        D.due("laid anew ahead of the new one", p.layers(4), 1);
        D.due("one layer", p.layers(0), 1);
        D.due("no ghosts", p.layers(1), 0);
        D.due("carried 1, 1, 1", p.layers(2), 3);
        D.due("one U for both", p.undo(), 1);
        D.due("old one back", p.of(0, 0), 1);
        D.due("next number back", p.size(2), 1);
        D.due("anew back", p.layers(4), 0);
        D.due("carried back", p.layers(2), 1);
        for (int i = 1; i < 60; i++) {
            p.put(0, 0, 1);
        }
        D.due("with 60 it still moves", p.move(5, 7, 7), 60);
        D.due("60 stay", p.size(0), 60);
    }

    private static void scatter() {
        D.promise("5 scatter");
        PointLayers p = new PointLayers();
        D.due("seed low", p.scatter(-1, 1), Due.BAD);
        D.due("seed high", p.scatter(1000000, 1), Due.BAD);
        D.due("n low", p.scatter(0, 0), Due.BAD);
        D.due("n high", p.scatter(0, 31), Due.BAD);
        D.due("first", p.scatter(0, 2), 2);
        long x = 0;
        for (int n = 0; n < 2; n++) {
            x = (x * 1103515245L + 12345L) & 0x7fffffffL;
            D.due("x", p.of(n, 0), (x >> 16) % 1001 - 500);
            x = (x * 1103515245L + 12345L) & 0x7fffffffL;
            D.due("y", p.of(n, 1), (x >> 16) % 1001 - 500);
            x = (x * 1103515245L + 12345L) & 0x7fffffffL;
            D.due("w", p.of(n, 2), 1 + (x >> 16) % 100);
        }
        D.due("seed at its end", p.scatter(999999, 30), 32);
        D.due("too many", p.scatter(1, 29), Due.FULL);
        D.due("BAD ahead of FULL", p.scatter(1, 31), Due.BAD);
        D.due("nothing came", p.size(0), 32);
        D.due("just 60", p.scatter(1, 28), 60);
        D.due("full", p.scatter(1, 1), Due.FULL);
        D.due("one U for all", p.undo(), 2);
        D.due("points", p.size(0), 32);
        D.due("next number", p.size(2), 32);
    }

    private static void sweep() {
        D.promise("6 sweep");
        PointLayers p = new PointLayers();
        D.due("none", p.sweep(-500, 500, -500, 500), 0);
        D.due("no U", p.size(5), 0);
        D.due("a above b", p.sweep(1, 0, 0, 0), Due.BAD);
        D.due("c above d", p.sweep(0, 0, 1, 0), Due.BAD);
        D.due("a low", p.sweep(-501, 0, 0, 0), Due.BAD);
        D.due("b high", p.sweep(0, 501, 0, 0), Due.BAD);
        D.due("c low", p.sweep(0, 0, -501, 0), Due.BAD);
        D.due("d high", p.sweep(0, 0, 0, 501), Due.BAD);
        p.put(5, 0, 1);
        p.put(-5, 9, 1);
        p.put(-5, 3, 1);
        p.put(100, 100, 1);
        p.put(100, 101, 1);
        p.put(100, 102, 1);
        p.put(100, 103, 1);
        D.due("three", p.sweep(-5, 5, 0, 9), 3);
        D.due("left", p.size(0), 4);
        D.due("ghosts by place: the first two are -5, 3 and -5, 9", p.inLayer(2, 1, -5, -5, 3, 9), 2);
        D.due("ghosts by place: the last is 5, 0", p.inLayer(1, 1, 5, 5, 0, 0), 1);
        D.due("one U", p.undo(), 7);
        D.due("all there", p.size(0), 7);
        D.due("all", p.sweep(-500, 500, -500, 500), 7);
        D.due("none left", p.size(0), 0);
        D.due("anew behind the 4th, 6th and 7th", p.layers(4), 3);
        D.due("no layers", p.layers(0), 0);
    }

    private static void counter() {
        D.promise("7 counter");
        PointLayers p = new PointLayers();
        D.due("low", p.counter(-1), Due.BAD);
        D.due("high", p.counter(6), Due.BAD);
        for (int i = 0; i < 13; i++) {
            p.put(i, i % 2 == 0 ? -i : i + 1, 10 + i);
        }
        int[] of12 = {1, 22, 1, 44, 0, 2};
        int[] of11 = {1, 21, 0, 42, 21, 22};
        int was = 0;
        for (int kind = 0; kind <= 5; kind++) {
            D.due("was", p.counter(kind), was);
            D.due("12 by kind " + kind, p.of(12, 3), of12[kind]);
            D.due("11 by kind " + kind, p.of(11, 3), of11[kind]);
            was = kind;
        }
        D.due("0 lies at 0, 0: north", p.of(0, 3), 10);
        int carried = p.layers(2);
        p.counter(5);
        D.due("all stays where it is", p.layers(2), carried);
        PointLayers q = new PointLayers();
        q.counter(0);
        D.due("U, also told the same", q.size(5), 1);
    }

    private static void undo() {
        D.promise("8 undo");
        PointLayers p = new PointLayers();
        for (int i = 0; i < 10; i++) {
            p.put(i, i, i + 1);
        }
        D.due("8 at most", p.size(5), 8);
        p.count(0, 9, 0, 9);
        int searches = p.layers(3);
        for (int left = 7; left >= 0; left--) {
            D.due("left", p.undo(), left);
            D.due("points", p.size(0), 2 + left);
        }
        D.due("none", p.undo(), Due.NO);
        D.due("no ones", p.status(1), 1);
        D.due("the first two stay", p.size(2), 2);
        D.due("searches stay", p.layers(3), searches);
        p.counter(3);
        p.put(1, 1, 1);
        D.due("put undone", p.undo(), 1);
        D.due("counter still", p.size(3), 3);
        D.due("counter undone", p.undo(), 0);
        D.due("counter", p.size(3), 0);
        Due.tell(p, "[0,1,0,1];");
        p.put(3, 3, 3);
        p.take(0);
        p.take(1);
        D.due("laid anew", p.layers(4), 1);
        p.undo();
        D.due("not yet", p.layers(4), 0);
        D.due("layers", p.layers(0), 3);
        D.due("ghosts", p.layers(1), 1);
        D.due("the area stays", p.size(7), 1);
        D.due("the text stays", p.size(6), 10);
    }

    private static void of() {
        D.promise("9 of");
        PointLayers p = new PointLayers();
        p.put(-7, 8, 9);
        p.counter(3);
        D.due("x", p.of(0, 0), -7);
        D.due("y", p.of(0, 1), 8);
        D.due("weight", p.of(0, 2), 9);
        D.due("counts", p.of(0, 3), 18);
        D.due("what low", p.of(0, -1), Due.BAD);
        D.due("what high", p.of(0, 4), Due.BAD);
        D.due("no such", p.of(1, 0), Due.BAD);
        D.due("bad ones", p.status(0), 3);
    }

    private static void nth() {
        D.promise("10 nth");
        PointLayers p = new PointLayers();
        p.scatter(5, 5);
        p.take(1);
        int[] numbers = {0, 2, 3, 4};
        for (int k = 0; k < 4; k++) {
            D.due("nth " + k, p.nth(k), numbers[k]);
        }
        D.due("one more", p.nth(4), Due.NONE);
        D.due("far", p.nth(Integer.MAX_VALUE), Due.NONE);
        D.due("minus", p.nth(-1), Due.BAD);
        D.due("NONE is not refused", p.status(0), 1);
    }
}
