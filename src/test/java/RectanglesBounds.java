/** Boundary cases of RECTANGLES and BY PLACE, and of promises 11 to 21. */
final class RectanglesBounds {
    private static final int LOW = Case.LOW, HIGH = Case.HIGH;
    private static final int MIN = Integer.MIN_VALUE, MAX = Integer.MAX_VALUE;
    private static final int[][] WRONG = {
        {LOW - 1, 0, 0, 0}, {0, HIGH + 1, 0, 0}, {0, 0, LOW - 1, 0}, {0, 0, 0, HIGH + 1},
        {HIGH + 1, HIGH + 1, 0, 0}, {LOW - 1, LOW - 1, 0, 0}, {0, 0, HIGH + 1, HIGH + 1}, {0, 0, LOW - 1, LOW - 1},
        {1, 0, 0, 0}, {0, 0, 1, 0}, {HIGH, LOW, 0, 0}, {0, 0, HIGH, LOW}, {0, -1, -1, 0}, {0, 0, 0, -1},
        {MIN, MAX, 0, 0}, {0, 0, MIN, MAX}, {MIN, 0, 0, 0}, {0, MAX, 0, 0}, {MAX, MIN, MAX, MIN}};
    private static final int[][] RIGHT = {
        {LOW, HIGH, LOW, HIGH}, {LOW, LOW, LOW, LOW}, {HIGH, HIGH, HIGH, HIGH}, {0, 0, 0, 0}, {LOW, 0, 0, HIGH}};

    private final Case c;

    RectanglesBounds(Case c) {
        this.c = c;
    }

    /** A call over a rectangle. */
    interface Over {
        long on(PointLayers p, int a, int b, int c, int d);
    }

    void go() {
        rectangles();
        edges();
        byPlace();
        count();
        many();
        kth();
        half();
        below();
        ring();
        near();
        strip();
        square();
        pairs();
        stair();
    }

    static void refusedRectangles(Case c, String call, Over over) {
        for (int[] r : WRONG) {
            c.refused(call + " of " + r[0] + ", " + r[1] + ", " + r[2] + ", " + r[3], Due.BAD, Case.RICH,
                p -> over.on(p, r[0], r[1], r[2], r[3]));
        }
        for (int[] r : RIGHT) {
            PointLayers p = Case.at(0, 0);
            long got = over.on(p, r[0], r[1], r[2], r[3]);
            c.due(call + " of a right one is BAD", got == Due.BAD ? 1 : 0, 0);
            c.due(call + " of a right one, STATUS", p.status(0), 0);
        }
    }

    private void rectangles() {
        c.terms("A RECTANGLE a, b, c, d (each -500 .. 500, a not above b, c not above d)");
        refusedRectangles(c, "many", PointLayers::many);
        refusedRectangles(c, "odds", (p, a, b, cc, d) -> p.odds(a, b, cc, d, 0, 0));
        refusedRectangles(c, "inLayer", (p, a, b, cc, d) -> p.inLayer(1, 0, a, b, cc, d));
    }

    private void edges() {
        c.terms("has all POINTS with X a .. b, Y c .. d.");
        has("sweep", 1, 0, PointLayers::sweep);
        has("count", 1, 0, PointLayers::count);
        has("many", 1, 0, PointLayers::many);
        has("kth", 0, Due.NONE, (p, a, b, cc, d) -> p.kth(a, b, cc, d, 0));
        has("half", 7, Due.NONE, PointLayers::half);
        has("inLayer", 1, 0, (p, a, b, cc, d) -> p.inLayer(1, 0, a, b, cc, d));
        has("odds", 1, 0, (p, a, b, cc, d) -> p.odds(a, b, cc, d, 1, 10) == 1 ? p.part(0) : Due.BAD);
    }

    /** A point at 7, -9: in each rectangle that ends with it, in none that ends just beside it. */
    private void has(String call, int in, int out, Over over) {
        int[][] inside = {{7, 7, -9, -9}, {7, 20, -9, 20}, {-20, 7, -20, -9}, {LOW, HIGH, LOW, HIGH}};
        int[][] outside = {{8, HIGH, LOW, HIGH}, {LOW, 6, LOW, HIGH}, {LOW, HIGH, -8, HIGH}, {LOW, HIGH, LOW, -10}};
        for (int[] r : inside) {
            c.due(call + " in it", over.on(Case.at(7, -9), r[0], r[1], r[2], r[3]), in);
        }
        for (int[] r : outside) {
            c.due(call + " out of it", over.on(Case.at(7, -9), r[0], r[1], r[2], r[3]), out);
        }
    }

    private void byPlace() {
        c.terms("BY PLACE: POINTS by X rising, of like ones by Y, of like ones by NUMBERS.");
        Case.Made made = Case.putAt(HIGH, LOW, LOW, HIGH, 0, 1, 0, 0, 0, 0, 0, -1, LOW, HIGH);
        int[] due = {1, 6, 5, 3, 4, 2, 0};
        PointLayers p = Case.after(made);
        Due.tell(p, "![1,1,1,1];");
        for (int k = 0; k < due.length; k++) {
            c.due("kth " + k, p.kth(LOW, HIGH, LOW, HIGH, k), due[k]);
            c.due("found " + k, p.found(k), due[k]);
        }
        // The ghosts of seven taken away in that order, looked at one by one.
        Case.Made nine = Case.and(made, q -> q.scatter(1, 9));
        PointLayers swept = Case.after(nine);
        for (int[] r : new int[][] {{LOW, LOW, HIGH, HIGH}, {0, 0, -1, 1}, {HIGH, HIGH, LOW, LOW}}) {
            swept.sweep(r[0], r[1], r[2], r[3]);
        }
        PointLayers one = Case.after(nine);
        for (int n : due) {
            one.take(n);
        }
        for (int size = 1; size <= 4; size *= 2) {
            for (int x : new int[] {LOW, 0, HIGH}) {
                for (int y : new int[] {LOW, -1, 0, 1, HIGH}) {
                    c.due("ghosts at " + x + ", " + y, swept.inLayer(size, 1, x, x, y, y), one.inLayer(size, 1, x, x, y, y));
                }
            }
        }
    }

    private void count() {
        c.says(11, "All that POINTS of a RECTANGLE count together.");
        int[] byKind = {3, 6, 2, 12, 4, 7};
        for (int kind = 0; kind < 6; kind++) {
            PointLayers p = Case.at(0, 0, 1, -2, 3, 3, 4, 4);
            p.counter(kind);
            c.due("by kind " + kind, p.count(0, 3, LOW, HIGH), byKind[kind]);
            c.due("of none", p.count(5, 5, 5, 5), 0);
        }
        PointLayers gone = Case.at(0, 0, 0, 0, 0, 0);
        gone.counter(1);
        gone.take(1);
        c.due("those gone do not count", gone.count(0, 0, 0, 0), 4);
        PointLayers most = Case.after(p -> {
            for (int i = 0; i < 60; i++) {
                p.put(HIGH, HIGH, 100);
            }
            p.counter(3);
        });
        c.due("the most that can be", most.count(LOW, HIGH, LOW, HIGH), 12000);

        c.says(11, "SEARCHES are as many more as there are LAYERS, of GHOSTS too.");
        searched(0, 0, 0);
        searched(1, 0, 1);
        searched(2, 0, 1);
        searched(3, 0, 2);
        searched(3, 1, 3);
        searched(4, 2, 2);
        searched(7, 3, 5);
        searched(8, 0, 1);
        searched(60, 0, 4);
        searched(60, 30, 8);
        // The second behind which all is laid anew.
        searched(2, 2, 0);
        PointLayers p = Case.at(1, 1, 2, 2, 3, 3);
        p.count(LOW, LOW, LOW, LOW);
        c.due("also where there are none", p.layers(3), 2);
        p.count(0, 9, 0, 9);
        c.due("as many more each time", p.layers(3), 4);

        c.says(11, "BAD.");
        refusedRectangles(c, "count", PointLayers::count);
    }

    private void searched(int come, int gone, int due) {
        PointLayers p = new PointLayers();
        for (int i = 0; i < come; i++) {
            p.put(0, 0, 1);
        }
        for (int i = 0; i < gone; i++) {
            p.take(i);
        }
        p.count(0, 0, 0, 0);
        c.due(come + " came, " + gone + " went", p.layers(3), due);
    }

    private void many() {
        c.says(12, "How many POINTS a RECTANGLE has.");
        Case.Made made = Case.and(Case.putAt(0, 0, 0, 0, 5, 5, 9, 9), p -> {
            p.take(2);
            p.counter(2);
        });
        c.changesNothing("two alike", 2, made, p -> p.many(0, 0, 0, 0));
        c.changesNothing("one gone", 0, made, p -> p.many(5, 5, 5, 5));
        c.changesNothing("all", 3, made, p -> p.many(LOW, HIGH, LOW, HIGH));
        c.changesNothing("no points", 0, Case.NEW, p -> p.many(LOW, HIGH, LOW, HIGH));
        c.changesNothing("60", 60, Case.SIXTY, p -> p.many(LOW, HIGH, LOW, HIGH));

        c.says(12, "BAD.");
        refusedRectangles(c, "many", PointLayers::many);
    }

    private void kth() {
        c.says(13, "The k-th POINT of a RECTANGLE BY PLACE; NONE.");
        Case.Made made = Case.putAt(5, 5, 5, 4, -1, 9, 5, 4, 7, 0);
        int[] due = {2, 1, 3, 0, Due.NONE, Due.NONE};
        for (int k = 0; k < due.length; k++) {
            int asked = k;
            c.changesNothing("k " + k, due[k], made, p -> p.kth(-1, 6, 0, 9, asked));
        }
        c.changesNothing("far", Due.NONE, made, p -> p.kth(-1, 6, 0, 9, MAX));
        c.changesNothing("no points", Due.NONE, Case.NEW, p -> p.kth(LOW, HIGH, LOW, HIGH, 0));
        c.changesNothing("60 are there", Due.NONE, Case.SIXTY, p -> p.kth(LOW, HIGH, LOW, HIGH, 60));
        PointLayers sixty = Case.after(Case.SIXTY);
        int last = sixty.kth(LOW, HIGH, LOW, HIGH, 59);
        c.due("the 60th has the greatest X", sixty.many(LOW, sixty.of(last, 0), LOW, HIGH), 60);

        c.says(13, "BAD: k below 0, too.");
        refusedRectangles(c, "kth", (p, a, b, cc, d) -> p.kth(a, b, cc, d, 0));
        c.refused("-1", Due.BAD, Case.RICH, p -> p.kth(LOW, HIGH, LOW, HIGH, -1));
        c.refused("far", Due.BAD, Case.RICH, p -> p.kth(LOW, HIGH, LOW, HIGH, MIN));
        c.refused("-1 of none", Due.BAD, Case.NEW, p -> p.kth(LOW, HIGH, LOW, HIGH, -1));
    }

    private void half() {
        c.says(14, "The least s (a .. b), so that half (cut up) of the POINTS of a RECTANGLE or more have X s or less;");
        Case.Made made = Case.putAt(40, 0, 30, 0, 20, 0, 10, 0, 50, 0);
        int[] due = {10, 10, 20, 20, 30};
        for (int n = 1; n <= 5; n++) {
            int b = 10 * n;
            c.changesNothing("of " + n, due[n - 1], made, p -> p.half(LOW, b, LOW, HIGH));
        }
        c.changesNothing("only those of the rectangle", 40, made, p -> p.half(30, 50, 0, 0));
        c.due("s is a", Case.at(LOW, 0, HIGH, 0).half(LOW, HIGH, 0, 0), LOW);
        c.due("s is b", Case.at(0, 0, HIGH, 0, HIGH, 1).half(LOW, HIGH, 0, 1), HIGH);
        c.due("one X", Case.at(3, 0, 3, 1, 3, 2).half(3, 3, 0, 2), 3);
        c.due("1 of 3 is less than half", Case.at(1, 0, 9, 0, 9, 1).half(LOW, HIGH, LOW, HIGH), 9);
        PointLayers gone = Case.at(1, 0, 5, 0, 9, 0);
        gone.take(0);
        c.due("those gone are not of it", gone.half(LOW, HIGH, LOW, HIGH), 5);
        PointLayers heavy = Case.at(9, 0, 1, 0);
        heavy.counter(1);
        c.due("points, not what they count", heavy.half(LOW, HIGH, LOW, HIGH), 1);

        c.says(14, "NONE: there are none.");
        c.changesNothing("none between", Due.NONE, made, p -> p.half(11, 19, LOW, HIGH));
        c.changesNothing("no points", Due.NONE, Case.NEW, p -> p.half(LOW, HIGH, LOW, HIGH));

        c.says(14, "BAD.");
        refusedRectangles(c, "half", PointLayers::half);
    }

    private void below() {
        c.says(15, "How many POINTS have X x or less, Y y or less.");
        Case.Made made = Case.putAt(3, 4, LOW, LOW, HIGH, HIGH);
        c.changesNothing("just at it", 2, made, p -> p.below(3, 4));
        c.changesNothing("x one less", 1, made, p -> p.below(2, 4));
        c.changesNothing("y one less", 1, made, p -> p.below(3, 3));
        c.changesNothing("the lowest", 1, made, p -> p.below(LOW, LOW));
        c.changesNothing("the highest", 3, made, p -> p.below(HIGH, HIGH));
        c.changesNothing("one below it", 2, made, p -> p.below(HIGH, HIGH - 1));
        c.changesNothing("no points", 0, Case.NEW, p -> p.below(HIGH, HIGH));

        c.says(15, "BAD.");
        c.limits("x", LOW, HIGH, Case.RICH, (p, v) -> p.below(v, 0));
        c.limits("y", LOW, HIGH, Case.RICH, (p, v) -> p.below(0, v));
    }

    private void ring() {
        c.says(16, "The least r (0 .. 1000), so that k (1 .. 60) POINTS or more have X x - r .. x + r, Y y - r .. y + r;");
        Case.Made corners = Case.putAt(LOW, LOW, HIGH, HIGH, 3, -7, 3, -7);
        c.changesNothing("r 0", 0, corners, p -> p.ring(HIGH, HIGH, 1));
        c.changesNothing("r 1000, all", 1000, corners, p -> p.ring(HIGH, HIGH, 4));
        c.changesNothing("r 1000 from the other corner", 1000, corners, p -> p.ring(LOW, LOW, 4));
        c.changesNothing("two at one place", 0, corners, p -> p.ring(3, -7, 1));
        c.changesNothing("two at one place", 0, corners, p -> p.ring(3, -7, 2));
        c.changesNothing("not three", 503, corners, p -> p.ring(3, -7, 3));
        c.due("x - r", Case.at(-6, 0).ring(0, 0, 1), 6);
        c.due("x + r", Case.at(6, 0).ring(0, 0, 1), 6);
        c.due("y - r", Case.at(0, -6).ring(0, 0, 1), 6);
        c.due("y + r", Case.at(5, 6).ring(0, 0, 1), 6);
        PointLayers sixty = Case.after(Case.SIXTY);
        int all = sixty.ring(0, 0, 60);
        c.due("60 of 60", sixty.many(-all, all, -all, all), 60);
        c.due("not one nearer", sixty.many(1 - all, all - 1, 1 - all, all - 1) < 60 ? 1 : 0, 1);
        c.limits("k", 1, 60, Case.SIXTY, (p, v) -> p.ring(0, 0, v));

        c.says(16, "NONE.");
        c.changesNothing("one more than there are", Due.NONE, corners, p -> p.ring(0, 0, 5));
        c.changesNothing("as many as there are", 500, corners, p -> p.ring(0, 0, 4));
        c.changesNothing("60", Due.NONE, corners, p -> p.ring(0, 0, 60));
        c.changesNothing("no points", Due.NONE, Case.NEW, p -> p.ring(0, 0, 1));
        c.changesNothing("those gone are not of it", Due.NONE, Case.and(corners, p -> p.take(3)), p -> p.ring(0, 0, 4));

        c.says(16, "BAD.");
        c.limits("x", LOW, HIGH, Case.RICH, (p, v) -> p.ring(v, 0, 1));
        c.limits("y", LOW, HIGH, Case.RICH, (p, v) -> p.ring(0, v, 1));
        c.limits("k", 1, 60, Case.NEW, (p, v) -> p.ring(0, 0, v));
    }

    private void near() {
        c.says(17, "The POINT nearest to x, y, by the greater of both distances; of like ones the least NUMBER;");
        Case.Made made = Case.putAt(6, 0, 5, 5, 5, -5, 0, -5);
        c.changesNothing("5 is nearer than 6; of three the least", 1, made, p -> p.near(0, 0));
        c.changesNothing("one beside", 0, made, p -> p.near(HIGH, 0));
        c.changesNothing("at it", 3, made, p -> p.near(0, -5));
        c.due("as far as can be", Case.at(HIGH, HIGH).near(LOW, LOW), 0);
        c.due("one less far", Case.at(HIGH, HIGH, HIGH - 1, HIGH - 1).near(LOW, LOW), 1);
        c.due("one place", Case.at(4, 4, 4, 4).near(0, 0), 0);
        PointLayers gone = Case.at(4, 4, 4, 4);
        gone.take(0);
        c.due("those gone are not of it", gone.near(4, 4), 1);

        c.says(17, "NONE.");
        c.changesNothing("no points", Due.NONE, Case.NEW, p -> p.near(0, 0));
        c.changesNothing("none any more", Due.NONE, Case.and(Case.putAt(0, 0), p -> p.take(0)), p -> p.near(0, 0));

        c.says(17, "BAD.");
        c.limits("x", LOW, HIGH, Case.RICH, (p, v) -> p.near(v, 0));
        c.limits("y", LOW, HIGH, Case.RICH, (p, v) -> p.near(0, v));
    }

    private void strip() {
        c.says(18, "The widest strip between the X of two POINTS without any X between: how wide (0), its left X (1); "
            + "of like ones the leftmost;");
        stripIs("of like ones the leftmost", 5, -5, -5, 0, 0, 3, 5, 9, 7, 7);
        stripIs("one wider to the right", 6, 0, -5, 0, 0, 3, 6, 9, 7, 7);
        stripIs("as narrow as can be", 1, 4, 4, HIGH, 5, LOW);
        stripIs("as wide as can be", 1000, LOW, HIGH, 0, LOW, 0);
        stripIs("two of one X", 3, 4, 4, 1, 4, 2, 7, 0);
        PointLayers gone = Case.at(0, 0, 5, 0, 8, 0);
        gone.take(1);
        c.due("those gone are not between", gone.strip(0), 8);

        c.says(18, "NONE: all have one X, or there are none.");
        for (int what = 0; what < 2; what++) {
            int asked = what;
            c.changesNothing("one X", Due.NONE, Case.putAt(4, 0, 4, 9, 4, -9), p -> p.strip(asked));
            c.changesNothing("one point", Due.NONE, Case.putAt(4, 0), p -> p.strip(asked));
            c.changesNothing("no points", Due.NONE, Case.NEW, p -> p.strip(asked));
            Case.Made left = Case.and(Case.putAt(4, 0, 4, 1, 7, 0), p -> p.take(2));
            c.changesNothing("one X is left", Due.NONE, left, p -> p.strip(asked));
        }

        c.says(18, "BAD.");
        c.limits("what", 0, 1, Case.RICH, (p, v) -> p.strip(v));
        c.refused("2 without points", Due.BAD, Case.NEW, p -> p.strip(2));
    }

    private void stripIs(String what, int wide, int left, int... places) {
        c.changesNothing(what + ", wide", wide, Case.putAt(places), p -> p.strip(0));
        c.changesNothing(what + ", left", left, Case.putAt(places), p -> p.strip(1));
    }

    private void square() {
        c.says(19, "The square X .. X and s, Y .. Y and s (s 0 .. 300; X, Y those of POINTS, also of unlike ones) that has "
            + "most POINTS, of like ones the least X, of like ones the least Y: how many (0), X (1), Y (2);");
        squareIs("s 0", 0, 3, 9, 8, 0, 0, 9, 8, 9, 8, 9, 8, 1, 1);
        squareIs("just as wide", 10, 2, 0, 0, 10, 0, 0, 0);
        squareIs("one less", 9, 1, 0, 0, 10, 0, 0, 0);
        squareIs("just as high", 10, 2, 0, 0, 0, 10, 0, 0);
        squareIs("one less high", 9, 1, 0, 0, 0, 10, 0, 0);
        squareIs("s 300", 300, 2, 0, 0, 300, 300, 0, 0);
        squareIs("one more than 300", 300, 1, 0, 0, 301, 301, 0, 0);
        squareIs("beyond the field", 300, 1, HIGH, HIGH, HIGH, HIGH);
        squareIs("X of one, Y of another", 7, 2, 0, 0, 0, 7, 7, 0);
        squareIs("the least X", 5, 1, -40, -1, 30, 30, -40, -1, 50, -50);
        squareIs("the least Y of like X", 5, 2, 10, -5, 10, 5, 10, 6, 10, -5, 10, -4);
        squareIs("the least Y is another's", 3, 1, 0, 2, 0, 5, 400, 2);
        squareIs("that Y is one too low", 2, 1, 0, 5, 0, 5, 400, 2);
        squareIs("most of one X", 5, 2, 0, 50, 0, 0, 0, 50, 0, 52);
        squareIs("most of one X, as many below it beside", 5, 2, 0, 50, 0, 0, 9, 1, 0, 50, 0, 55, 20, 2);
        squareIs("most ahead of least", 5, 3, 50, 50, 0, 0, 1, 1, 50, 50, 52, 55, 55, 52);
        c.limits("s", 0, 300, Case.RICH, (p, v) -> p.square(v, 0));
        PointLayers gone = Case.at(0, 0, 0, 0, 9, 9);
        gone.take(0);
        gone.take(1);
        c.due("those gone are not of it", gone.square(1, 1), 9);

        c.says(19, "NONE: no POINTS.");
        for (int what = 0; what < 3; what++) {
            int asked = what;
            c.changesNothing("no points", Due.NONE, Case.NEW, p -> p.square(0, asked));
            c.changesNothing("none any more", Due.NONE, Case.and(Case.putAt(0, 0), p -> p.take(0)), p -> p.square(300, asked));
        }

        c.says(19, "BAD.");
        c.limits("s", 0, 300, Case.NEW, (p, v) -> p.square(v, 0));
        c.limits("what", 0, 2, Case.RICH, (p, v) -> p.square(0, v));
    }

    private void squareIs(String what, int s, int many, int x, int y, int... places) {
        c.changesNothing(what + ", how many", many, Case.putAt(places), p -> p.square(s, 0));
        c.changesNothing(what + ", x", x, Case.putAt(places), p -> p.square(s, 1));
        c.changesNothing(what + ", y", y, Case.putAt(places), p -> p.square(s, 2));
    }

    private void pairs() {
        c.says(20, "How many pairs of POINTS there are of which the one has less X and less Y.");
        pairsAre("no points", 0);
        pairsAre("one point", 0, 0, 0);
        pairsAre("less X and Y", 1, 0, 0, 1, 1);
        pairsAre("the other one has", 1, 1, 1, 0, 0);
        pairsAre("like X", 0, 0, 0, 0, 1);
        pairsAre("like Y", 0, 0, 0, 1, 0);
        pairsAre("one place", 0, 1, 1, 1, 1);
        pairsAre("less X, more Y", 0, 0, 1, 1, 0);
        pairsAre("ends of the field", 1, LOW, LOW, HIGH, HIGH);
        PointLayers gone = Case.at(0, 0, 1, 1, 2, 2);
        gone.take(1);
        c.due("those gone are of none", gone.pairs(), 1);
        PointLayers rising = Case.after(p -> {
            for (int i = 0; i < 60; i++) {
                p.put(i, i, 1);
            }
        });
        c.due("all pairs of 60", rising.pairs(), 1770);
    }

    private void pairsAre(String what, int due, int... places) {
        c.changesNothing(what, due, Case.putAt(places), p -> p.pairs());
    }

    private void stair() {
        c.says(21, "STAIRS are POINTS such that no other one has X and Y as great or greater, and not both alike; "
            + "of like ones all are.");
        stairsAre("one", new int[] {0}, 3, 3);
        stairsAre("X greater, Y alike", new int[] {1}, 3, 3, 4, 3);
        stairsAre("Y greater, X alike", new int[] {0}, 3, 4, 3, 3);
        stairsAre("one greater, one less", new int[] {1, 0}, 4, 3, 3, 4);
        stairsAre("both greater", new int[] {1}, 3, 3, 4, 4);
        stairsAre("like ones", new int[] {0, 1, 2}, 3, 3, 3, 3, 3, 3);
        stairsAre("like ones below another", new int[] {2}, 3, 3, 3, 3, 3, 4);

        c.says(21, "The k-th BY PLACE; how many (k = -1).");
        stairsAre("by place", new int[] {2, 0, 1, 3}, 5, 5, 5, 5, 0, 9, 9, 0, 4, 5, 5, 4, -3, 9);
        c.changesNothing("how many of none", 0, Case.NEW, p -> p.stair(-1));
        PointLayers falling = Case.after(p -> {
            for (int i = 0; i < 60; i++) {
                p.put(i, -i, 1);
            }
        });
        c.due("all of 60", falling.stair(-1), 60);
        c.due("the last", falling.stair(59), 59);
        PointLayers gone = Case.at(1, 1, 2, 2);
        gone.take(1);
        c.due("those gone are above nobody", gone.stair(0), 0);

        c.says(21, "NONE: not so many.");
        c.changesNothing("one more", Due.NONE, Case.putAt(1, 1, 0, 0), p -> p.stair(1));
        c.changesNothing("far", Due.NONE, Case.putAt(1, 1, 0, 0), p -> p.stair(MAX));
        c.changesNothing("no points", Due.NONE, Case.NEW, p -> p.stair(0));
        c.due("60 are not 61", falling.stair(60), Due.NONE);

        c.says(21, "BAD: k below -1.");
        c.refused("-2", Due.BAD, Case.RICH, p -> p.stair(-2));
        c.refused("far", Due.BAD, Case.RICH, p -> p.stair(MIN));
        c.refused("-2 without points", Due.BAD, Case.NEW, p -> p.stair(-2));
    }

    private void stairsAre(String what, int[] due, int... places) {
        c.changesNothing(what + ", how many", due.length, Case.putAt(places), p -> p.stair(-1));
        for (int k = 0; k < due.length; k++) {
            int asked = k;
            c.changesNothing(what + ", " + k, due[k], Case.putAt(places), p -> p.stair(asked));
        }
        c.changesNothing(what + ", no more", Due.NONE, Case.putAt(places), p -> p.stair(due.length));
    }
}
