import java.math.BigInteger;

/** Boundary cases of ODDS, IMAGES and of what is refused, and of promises 31 to 37. */
final class OddsBounds {
    private static final int LOW = Case.LOW, HIGH = Case.HIGH;

    private final Case c;

    OddsBounds(Case c) {
        this.c = c;
    }

    void go() {
        chances();
        kept();
        refusals();
        odds();
        part();
        image();
        from();
        status();
        size();
        digest();
    }

    /** n points at 0, 0. */
    private static Case.Made heap(int n) {
        return p -> {
            for (int i = 0; i < n; i++) {
                p.put(0, 0, 1 + i);
            }
        };
    }

    private void fractionIs(String what, PointLayers p, long above, long below) {
        c.due(what + ", above", p.part(0), above);
        c.due(what + ", below", p.part(1), below);
    }

    private void oddsAre(int points, int k, int awake, long above, long below) {
        PointLayers p = Case.after(heap(points));
        String what = k + " or more of " + points + " by " + awake;
        c.due(what, p.odds(0, 0, 0, 0, k, awake), 1);
        fractionIs(what, p, above, below);
    }

    private void chances() {
        c.terms("ODDS: each POINT of a RECTANGLE (15 at most)");
        c.due("15", Case.after(heap(15)).odds(0, 0, 0, 0, 1, 5), 1);
        c.refused("16", Due.NO, heap(16), p -> p.odds(0, 0, 0, 0, 1, 5));
        c.due("16, 15 of them in it", Case.after(Case.and(heap(15), p -> p.put(1, 0, 1))).odds(0, 0, 0, 0, 1, 5), 1);
        c.due("16 came, one is gone", Case.after(Case.and(heap(16), p -> p.take(0))).odds(0, 0, 0, 0, 1, 5), 1);

        c.terms("is awake by c of 10 (0 .. 10), apart:");
        c.limits("by", 0, 10, Case.RICH, (p, v) -> p.odds(0, 0, 0, 0, 1, v));
        oddsAre(1, 1, 0, 0, 1);
        oddsAre(1, 1, 1, 1, 10);
        oddsAre(1, 1, 9, 9, 10);
        oddsAre(1, 1, 10, 1, 1);
        oddsAre(2, 2, 3, 9, 100);

        c.terms("the chance that k or more are:");
        oddsAre(2, 0, 3, 1, 1);
        oddsAre(2, 1, 3, 51, 100);
        oddsAre(2, 2, 5, 1, 4);
        oddsAre(2, 3, 10, 0, 1);
        oddsAre(0, 0, 0, 1, 1);
        oddsAre(0, 1, 10, 0, 1);
        for (int n = 0; n <= 15; n++) {
            for (int k = 0; k <= 15; k++) {
                chancesAreExact(n, k);
            }
        }

        c.terms("THE FRACTION, in lowest terms, 0 by 1 at first.");
        fractionIs("at first", new PointLayers(), 0, 1);
        oddsAre(1, 1, 5, 1, 2);
        oddsAre(1, 1, 2, 1, 5);
        oddsAre(15, 15, 1, 1, 1000000000000000L);
        oddsAre(15, 15, 9, 205891132094649L, 1000000000000000L);
        oddsAre(15, 1, 10, 1, 1);
        oddsAre(15, 15, 0, 0, 1);
        oddsAre(15, 8, 5, 1, 2);
    }

    /** Beside the same sum in whole numbers without an end. */
    private void chancesAreExact(int n, int k) {
        PointLayers p = Case.after(heap(n));
        for (int by = 0; by <= 10; by++) {
            BigInteger sum = BigInteger.ZERO;
            BigInteger ways = BigInteger.ONE;
            for (int j = 0; j <= n; j++) {
                BigInteger one = BigInteger.valueOf(by).pow(j).multiply(BigInteger.valueOf(10 - by).pow(n - j));
                sum = j >= k ? sum.add(one.multiply(ways)) : sum;
                ways = ways.multiply(BigInteger.valueOf(n - j)).divide(BigInteger.valueOf(j + 1));
            }
            BigInteger all = BigInteger.TEN.pow(n);
            BigInteger shared = sum.gcd(all);
            p.odds(LOW, HIGH, LOW, HIGH, k, by);
            fractionIs(k + " or more of " + n + " by " + by, p, sum.divide(shared).longValueExact(),
                all.divide(shared).longValueExact());
        }
    }

    private void kept() {
        c.terms("IMAGES 0, 1 keep all but them, THE TEXT, THE FRACTION, SEARCHES, STATUS, what may be undone");
        c.limits("image", 0, 1, Case.RICH, (p, v) -> p.image(v));
        c.limits("from", 0, 1, Case.and(Case.RICH, p -> p.image(1)), (p, v) -> p.from(v));
        PointLayers p = Case.after(Case.RICH);
        int[] sizes = {p.size(0), p.size(1), p.size(2), p.size(3), p.size(4)};
        int[] layers = {p.layers(0), p.layers(1), p.layers(2), p.layers(4)};
        int first = p.nth(0);
        p.image(1);
        p.sweep(LOW, HIGH, LOW, HIGH);
        p.scatter(3, 9);
        p.counter(5);
        p.count(0, 0, 0, 0);
        p.odds(LOW, LOW, LOW, LOW, 0, 0);
        p.put(0, 0, 0);
        Due.tell(p, "[5,5,5,5];");
        p.image(0);
        int searches = p.layers(3);
        int bad = p.status(0);
        p.from(1);
        for (int what = 0; what < 5; what++) {
            c.due("size " + what, p.size(what), sizes[what]);
        }
        for (int what = 0; what < 4; what++) {
            c.due("layers", p.layers(what < 3 ? what : 4), layers[what]);
        }
        c.due("the points", p.nth(0), first);
        c.due("THE AREA, in it", p.covers(0, 50), 1);
        c.due("THE AREA, out of it", p.covers(0, 51), 0);
        c.due("THE TEXT is as it was", p.size(6), 10);
        fractionIs("THE FRACTION is as it was", p, 1, 1);
        c.due("SEARCHES are as they were", p.layers(3), searches);
        c.due("STATUS is as it was", p.status(0), bad);
        c.due("the other IMAGE is as it was", p.from(0), 1);
        c.due("with its own points", p.size(0), 9);
        c.due("and its own AREA", p.covers(5, 5) * 2 + p.covers(0, 0), 2);
        c.due("and its own COUNTER", p.size(3), 5);

        c.terms("(behind it none may be)");
        PointLayers q = Case.after(Case.RICH);
        int known = q.size(5);
        q.image(0);
        c.due("keeping one leaves what may be undone", q.size(5), known);
        q.from(0);
        c.due("none may be undone", q.size(5), 0);
        c.due("undo", q.undo(), Due.NO);
        q.put(1, 1, 1);
        c.due("but what comes then", q.undo(), 0);
        c.due("no more", q.undo(), Due.NO);
    }

    private void refusals() {
        c.terms("Refused, changing nothing but STATUS, the first of: BAD -2000000002 a number is not as told;");
        c.due("BAD", PointLayers.BAD, -2000000002);
        c.refused("a number", Due.BAD, Case.RICH, p -> p.put(501, 0, 1));
        c.refused("two numbers count as one", Due.BAD, Case.RICH, p -> p.put(501, 501, 0));
        c.refused("BAD ahead of FULL: put", Due.BAD, Case.SIXTY, p -> p.put(0, 0, 101));
        c.refused("BAD ahead of FULL: scatter", Due.BAD, Case.SIXTY, p -> p.scatter(-1, 1));
        c.refused("BAD ahead of NO: odds", Due.BAD, Case.SIXTY, p -> p.odds(LOW, HIGH, LOW, HIGH, 16, 5));
        c.refused("BAD ahead of NO: from", Due.BAD, Case.NEW, p -> p.from(2));

        c.terms("NO -2000000003 as told;");
        c.due("NO", PointLayers.NO, -2000000003);
        c.refused("undo", Due.NO, Case.NEW, p -> p.undo());
        c.refused("from", Due.NO, Case.RICH, p -> p.from(1));
        c.refused("odds", Due.NO, Case.SIXTY, p -> p.odds(LOW, HIGH, LOW, HIGH, 15, 10));

        c.terms("FULL -2000000004 as told.");
        c.due("FULL", PointLayers.FULL, -2000000004);
        c.refused("put", Due.FULL, Case.SIXTY, p -> p.put(0, 0, 100));
        c.refused("scatter", Due.FULL, Case.SIXTY, p -> p.scatter(0, 30));

        c.terms("NONE -2000000001 is none of these.");
        c.due("NONE", PointLayers.NONE, -2000000001);
        c.changesNothing("nth", Due.NONE, Case.RICH, p -> p.nth(60));
        c.changesNothing("kth", Due.NONE, Case.RICH, p -> p.kth(0, 0, 0, 0, 60));
        c.changesNothing("inLayer", Due.NONE, Case.RICH, p -> p.inLayer(64, 0, 0, 0, 0, 0));
    }

    private void odds() {
        c.says(31, "ODDS is THE FRACTION: 1.");
        PointLayers p = Case.after(heap(2));
        c.due("odds", p.odds(0, 0, 0, 0, 1, 5), 1);
        fractionIs("1 or more of 2", p, 3, 4);
        c.due("odds anew", p.odds(0, 0, 0, 0, 2, 5), 1);
        fractionIs("2 of 2", p, 1, 4);
        c.due("of none", p.odds(1, 1, 1, 1, 1, 5), 1);
        fractionIs("1 of none", p, 0, 1);
        c.due("no U", p.size(5), 2);
        c.due("no searches", p.layers(3), 0);

        c.says(31, "BAD: k not 0 .. 15, too;");
        c.limits("k", 0, 15, heap(15), (q, v) -> q.odds(0, 0, 0, 0, v, 5));
        c.limits("p", 0, 10, heap(15), (q, v) -> q.odds(0, 0, 0, 0, 1, v));
        RectanglesBounds.refusedRectangles(c, "odds", (q, a, b, cc, d) -> q.odds(a, b, cc, d, 0, 0));
        c.refused("BAD ahead of NO", Due.BAD, heap(16), q -> q.odds(0, 0, 0, 0, 16, 5));
        c.refused("BAD ahead of NO", Due.BAD, heap(16), q -> q.odds(0, 0, 0, 0, 1, 11));

        c.says(31, "NO: the RECTANGLE has more than 15 POINTS.");
        c.refused("16", Due.NO, heap(16), q -> q.odds(0, 0, 0, 0, 0, 0));
        c.refused("16 beside a fraction", Due.NO, Case.and(Case.RICH, heap(15)), q -> q.odds(0, 0, 0, 0, 0, 0));
        c.refused("60", Due.NO, Case.SIXTY, q -> q.odds(LOW, HIGH, LOW, HIGH, 15, 10));
        c.due("15 of 60", Case.after(Case.and(heap(15), q -> q.scatter(1, 30))).odds(0, 0, 0, 0, 15, 10), 1);
    }

    private void part() {
        c.says(32, "THE FRACTION: above (0), below (1).");
        Case.Made made = Case.and(heap(1), p -> p.odds(0, 0, 0, 0, 1, 7));
        c.changesNothing("above", 7, made, p -> p.part(0));
        c.changesNothing("below", 10, made, p -> p.part(1));
        Case.Made most = Case.and(heap(15), p -> p.odds(0, 0, 0, 0, 1, 1));
        c.changesNothing("above an int", 794108867905351L, most, p -> p.part(0));
        c.changesNothing("above an int", 1000000000000000L, most, p -> p.part(1));

        c.says(32, "BAD.");
        c.limits("what", 0, 1, Case.RICH, (p, v) -> p.part(v));
    }

    private void image() {
        c.says(33, "An IMAGE is kept: 1.");
        PointLayers p = Case.at(1, 1);
        c.due("image 0", p.image(0), 1);
        p.put(2, 2, 2);
        c.due("image 1", p.image(1), 1);
        p.put(3, 3, 3);
        c.due("the first again", p.from(0), 1);
        c.due("one point", p.size(0), 1);
        c.due("the second again", p.from(1), 1);
        c.due("two points", p.size(0), 2);
        c.due("kept anew", p.image(0), 1);
        p.take(0);
        c.due("from it", p.from(0), 1);
        c.due("two points", p.size(0), 2);
        PointLayers none = new PointLayers();
        c.due("of nothing", none.image(1), 1);
        none.put(1, 1, 1);
        c.due("to nothing", none.from(1), 1);
        c.due("no points", none.size(0), 0);
        c.due("no number given", none.size(2), 0);
        PointLayers known = Case.after(Case.RICH);
        int may = known.size(5);
        known.image(1);
        c.due("no U, and none is lost", known.size(5), may);

        c.says(33, "BAD.");
        c.limits("image", 0, 1, Case.RICH, (q, v) -> q.image(v));
    }

    private void from() {
        c.says(34, "It goes on from an IMAGE: 1.");
        PointLayers p = Case.at(1, 1, 2, 2, 3, 3);
        p.image(0);
        p.take(0);
        p.take(1);
        c.due("from", p.from(0), 1);
        c.due("three points", p.size(0), 3);
        c.due("the next number", p.put(4, 4, 4), 3);
        c.due("the image is as it was", p.from(0), 1);
        c.due("three points", p.size(0), 3);
        c.due("none may be undone", p.undo(), Due.NO);

        c.says(34, "BAD;");
        c.limits("from", 0, 1, Case.and(Case.RICH, q -> q.image(1)), (q, v) -> q.from(v));
        c.refused("BAD ahead of NO", Due.BAD, Case.NEW, q -> q.from(-1));
        c.refused("BAD ahead of NO", Due.BAD, Case.NEW, q -> q.from(2));

        c.says(34, "NO: none was kept.");
        c.refused("0", Due.NO, Case.NEW, q -> q.from(0));
        c.refused("1", Due.NO, Case.NEW, q -> q.from(1));
        c.refused("1, but 0 was", Due.NO, Case.RICH, q -> q.from(1));
        c.refused("0, but 1 was", Due.NO, Case.and(Case.putAt(1, 1), q -> q.image(1)), q -> q.from(0));
    }

    private void status() {
        c.says(35, "STATUS: how many were refused as BAD (0), NO (1), FULL (2).");
        PointLayers p = new PointLayers();
        for (int i = 1; i <= 3; i++) {
            p.take(0);
            c.due("BAD", p.status(0), i);
        }
        for (int i = 1; i <= 2; i++) {
            p.undo();
            c.due("NO", p.status(1), i);
        }
        Due.write(p, " ".repeat(120));
        p.type(' ');
        c.due("FULL", p.status(2), 1);
        c.due("BAD still", p.status(0), 3);
        c.due("NO still", p.status(1), 2);
        p.area();
        p.nth(0);
        p.near(0, 0);
        c.due("a FAULT and NONE are none of these", p.status(0) + p.status(1) + p.status(2), 6);
        PointLayers most = Case.after(q -> {
            for (int i = 0; i < 511; i++) {
                q.take(i);
            }
        });
        c.due("the 512th call, behind 511 that were refused", most.status(0), 511);

        c.says(35, "-1: another what (counts as BAD).");
        for (int what : new int[] {-1, 3, Integer.MIN_VALUE, Integer.MAX_VALUE}) {
            PointLayers q = Case.after(Case.RICH);
            PointLayers twin = Case.after(Case.RICH);
            c.due("status " + what, q.status(what), -1);
            c.due("counts as BAD", q.status(0), 1);
            c.due("not as NO", q.status(1), 0);
            c.due("not as FULL", q.status(2), 0);
            c.alike("all else is as it was", q, twin);
        }
    }

    private void size() {
        c.says(36, "How many: 0 POINTS, 1 GHOSTS, 2 the next NUMBER, 3 THE COUNTER's KIND, 4 WEIGHTS of all together, 5 that "
            + "may be undone, 6 bytes of THE TEXT, 7 RECTANGLES in THE AREA.");
        Case.Made made = Case.and(Case.putAt(0, 0, 1, 1, 2, 2, 3, 3), p -> {
            p.take(1);
            p.counter(4);
            Due.tell(p, "[0,0,0,0]-[1,1,1,1];");
            p.type(' ');
        });
        int[] due = {3, 1, 4, 4, 8, 6, 21, 2};
        for (int what = 0; what < 8; what++) {
            int asked = what;
            c.changesNothing("size " + what, due[what], made, p -> p.size(asked));
        }
        PointLayers most = Case.after(p -> {
            for (int i = 0; i < 60; i++) {
                p.put(0, 0, 100);
            }
            for (int i = 0; i < 59; i++) {
                p.move(i, 0, 0);
            }
            Due.write(p, " ".repeat(121));
        });
        int[] greatest = {60, 59, 119, 0, 6000, 8, 120, 0};
        for (int what = 0; what < 8; what++) {
            c.due("as much as can be, " + what, most.size(what), greatest[what]);
        }

        c.says(36, "BAD.");
        c.limits("what", 0, 7, Case.RICH, (p, v) -> p.size(v));
    }

    private void digest() {
        c.says(37, "h = 1901; then h = 31 h + v for each v: size(0) to size(7); layers(0) to layers(4); of POINTS by NUMBERS "
            + "the NUMBER, of() 0 to 3; THE FRACTION.");
        c.due("a new object", new PointLayers().digest(), digestOf(0, 0, 0, 0, 0, 0, 0, 0, 0, 0, 0, 0, 0, 0, 1));
        PointLayers p = Case.at(HIGH, LOW);
        c.due("one point", p.digest(),
            digestOf(1, 0, 1, 0, 1, 1, 0, 0, 1, 0, 1, 0, 0, 0, HIGH, LOW, 1, 1, 0, 1));
        PointLayers q = Case.at(9, 9, 0, -1, 9, 9);
        q.take(0);
        q.counter(5);
        q.count(0, 0, 0, 0);
        q.odds(9, 9, 9, 9, 1, 4);
        Due.tell(q, Case.UNIT + ";");
        c.due("by numbers, without those gone", q.digest(), digestOf(2, 1, 3, 5, 5, 5, 10, 1, 3, 1, 5, 3, 0,
            1, 0, -1, 2, 1, 2, 9, 9, 3, 5, 2, 5));
        c.changesNothing("asked, nothing is changed", Case.after(Case.SIXTY).digest(), Case.SIXTY, r -> r.digest());
        PointLayers end = Case.after(Case.RICH);
        long was = end.digest();
        end.put(0, 0, 0);
        end.undo();
        c.due("STATUS is not in it, what may be undone is", end.digest() == was ? 1 : 0, 0);
    }

    /** Reckoned without an end, then cut to a long. */
    private static long digestOf(long... values) {
        BigInteger h = BigInteger.valueOf(1901);
        for (long v : values) {
            h = h.multiply(BigInteger.valueOf(31)).add(BigInteger.valueOf(v));
        }
        return h.longValue();
    }
}
