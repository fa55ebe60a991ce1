/** Promises 31 to 37. */
public final class OddsTest {
    private static final Due D = new Due();

    public static void main(String[] args) {
        odds();
        images();
        status();
        size();
        digest();
        D.end();
    }

    private static void odds() {
        D.promise("31 odds, 32 part");
        PointLayers p = new PointLayers();
        for (int i = 0; i < 15; i++) {
            p.put(i, 0, 1);
        }
        oddsAre(p, 1, 0, 5, 1, 1);
        oddsAre(p, 1, 1, 5, 1, 2);
        oddsAre(p, 2, 1, 5, 3, 4);
        oddsAre(p, 2, 2, 3, 9, 100);
        oddsAre(p, 2, 3, 3, 0, 1);
        oddsAre(p, 3, 2, 4, 44, 125);
        oddsAre(p, 3, 1, 0, 0, 1);
        oddsAre(p, 3, 0, 0, 1, 1);
        oddsAre(p, 3, 3, 10, 1, 1);
        oddsAre(p, 15, 15, 1, 1, 1000000000000000L);
        oddsAre(p, 15, 8, 5, 1, 2);
        oddsAre(p, 15, 15, 9, 205891132094649L, 1000000000000000L);
        D.due("none there, k 0", p.odds(100, 100, 0, 0, 0, 5), 1);
        D.due("sure", p.part(0) + 2 * p.part(1), 3);
        D.due("none there, k 1", p.odds(100, 100, 0, 0, 1, 10), 1);
        D.due("never", p.part(0), 0);
        D.due("by 1", p.part(1), 1);
        p.odds(0, 0, 0, 0, 1, 3);
        p.put(15, 0, 1);
        D.due("16", p.odds(0, 15, 0, 0, 1, 1), Due.NO);
        D.due("k high", p.odds(0, 15, 0, 0, 16, 1), Due.BAD);
        D.due("k low", p.odds(0, 0, 0, 0, -1, 1), Due.BAD);
        D.due("p high", p.odds(0, 15, 0, 0, 1, 11), Due.BAD);
        D.due("p low", p.odds(0, 0, 0, 0, 1, -1), Due.BAD);
        D.due("rectangle", p.odds(0, 0, 1, 0, 1, 1), Due.BAD);
        D.due("the fraction stays", p.part(0), 3);
        D.due("the fraction stays", p.part(1), 10);
        D.due("what low", p.part(-1), Due.BAD);
        D.due("what high", p.part(2), Due.BAD);
        D.due("bad ones", p.status(0), 7);
        D.due("no ones", p.status(1), 1);
        p.undo();
        D.due("undo leaves it", p.part(1), 10);
    }

    private static void oddsAre(PointLayers p, int points, int k, int awake, long above, long below) {
        String call = points + " points, " + k + " or more by " + awake;
        D.due(call, p.odds(0, points - 1, 0, 0, k, awake), 1);
        D.due(call + " above", p.part(0), above);
        D.due(call + " below", p.part(1), below);
    }

    private static void images() {
        D.promise("33 image, 34 from");
        PointLayers p = new PointLayers();
        D.due("low", p.image(-1), Due.BAD);
        D.due("high", p.image(2), Due.BAD);
        D.due("low", p.from(-1), Due.BAD);
        D.due("high", p.from(2), Due.BAD);
        D.due("none", p.from(0), Due.NO);
        p.scatter(1, 5);
        p.counter(4);
        p.take(2);
        Due.tell(p, "[0,500,0,500];");
        D.due("kept", p.image(0), 1);
        D.due("undo is still known", p.size(5), 3);
        D.due("none in 1", p.from(1), Due.NO);
        int carried = p.layers(2);
        p.sweep(-500, 500, -500, 500);
        p.counter(1);
        p.count(0, 0, 0, 0);
        p.put(1, 1, 1);
        p.count(0, 0, 0, 0);
        p.odds(0, 5, 0, 5, 1, 7);
        Due.tell(p, "[1,1,1,1]+[2,2,2,2];");
        D.due("the other kept", p.image(1), 1);
        D.due("back", p.from(0), 1);
        D.due("points", p.size(0), 4);
        D.due("ghosts", p.size(1), 1);
        D.due("next number", p.size(2), 5);
        D.due("counter", p.size(3), 4);
        D.due("none may be undone", p.size(5), 0);
        D.due("undo", p.undo(), Due.NO);
        D.due("area", p.size(7), 1);
        D.due("carried", p.layers(2), carried);
        D.due("anew", p.layers(4), 0);
        D.due("the text is not of it", p.size(6), 20);
        D.due("searches are not of it", p.layers(3), 1);
        D.due("the fraction is not of it", p.part(0), 7);
        D.due("status is not of it", p.status(0), 4);
        D.due("a call behind it", p.put(0, 0, 1), 5);
        D.due("may be undone", p.undo(), 0);
        D.due("the image is not touched", p.from(1), 1);
        D.due("points", p.size(0), 1);
        D.due("area", p.size(7), 2);
        D.due("and again", p.from(0), 1);
        D.due("points", p.size(0), 4);
        D.due("kept anew", p.image(1), 1);
        D.due("from it", p.from(1), 1);
        D.due("points", p.size(0), 4);
    }

    private static void status() {
        D.promise("35 status");
        PointLayers p = new PointLayers();
        D.due("another", p.status(3), -1);
        D.due("counts as BAD", p.status(0), 1);
        D.due("another", p.status(-1), -1);
        p.undo();
        p.undo();
        p.undo();
        for (int i = 0; i < 121; i++) {
            p.type(1);
        }
        D.due("BAD", p.status(0), 2);
        D.due("NO", p.status(1), 3);
        D.due("FULL", p.status(2), 1);
    }

    private static void size() {
        D.promise("36 size");
        PointLayers p = new PointLayers();
        p.put(0, 0, 7);
        p.put(1, 1, 8);
        p.put(2, 2, 9);
        p.take(1);
        p.counter(2);
        Due.tell(p, "[0,0,0,0]-[1,1,1,1];");
        int[] due = {2, 1, 3, 2, 16, 5, 20, 2};
        for (int what = 0; what < 8; what++) {
            D.due("size " + what, p.size(what), due[what]);
        }
        D.due("low", p.size(-1), Due.BAD);
        D.due("high", p.size(8), Due.BAD);
        D.due("bad ones", p.status(0), 2);
    }

    private static void digest() {
        D.promise("37 digest");
        PointLayers p = new PointLayers();
        p.put(-4, 6, 9);
        p.put(3, 8, 1);
        p.put(3, 8, 2);
        p.take(1);
        p.counter(5);
        p.count(-500, 500, -500, 500);
        p.odds(3, 3, 8, 8, 1, 4);
        Due.tell(p, "[0,0,0,0];");
        long[] values = {2, 1, 3, 5, 11, 5, 10, 1, 3, 1, 5, 3, 0,
            0, -4, 6, 9, 9, 2, 3, 8, 2, 4, 2, 5};
        long h = 1901;
        for (long v : values) {
            h = 31 * h + v;
        }
        D.due("digest", p.digest(), h);
        D.due("again", p.digest(), h);
        p.of(77, 0);
        D.due("status is not in it", p.digest(), h);
    }
}
