/** Boundary cases of what is told of POINTS, THE COUNTER and UNDO, and of promises 1 to 10. */
final class PointsBounds {
    private static final int LOW = Case.LOW, HIGH = Case.HIGH;
    private static final int NUMBERS = 10000;

    private final Case c;

    PointsBounds(Case c) {
        this.c = c;
    }

    void go() {
        points();
        places();
        kinds();
        counts();
        draws();
        whatIsUndone();
        newObject();
        put();
        take();
        move();
        scatter();
        sweep();
        counter();
        undo();
        of();
        nth();
    }

    private void points() {
        c.terms("1 POINTS, 60 at most at a time");
        PointLayers p = new PointLayers();
        for (int i = 0; i < 60; i++) {
            c.due("put", p.put(0, 0, 1), i);
        }
        c.due("60 are there", p.size(0), 60);
        c.due("a 61st", p.put(0, 0, 1), Due.FULL);
        c.due("one is taken away", p.take(30), 1);
        c.due("there is room for one", p.put(0, 0, 1), 60);
        c.due("and for no other", p.put(0, 0, 1), Due.FULL);
        c.due("as many as there are", p.size(0), 60);
        fullest();

        c.terms("each has a NUMBER (0, 1, .. as they come; 9999 at most)");
        PointLayers q = new PointLayers();
        c.due("the first", q.put(3, 3, 3), 0);
        c.due("the second", q.put(3, 3, 3), 1);
        q.take(1);
        c.due("none is given twice", q.put(3, 3, 3), 2);
        c.due("a moved one has a new one", q.move(2, 4, 4), 3);
        q.scatter(1, 2);
        c.due("scattered ones", q.nth(q.size(0) - 1), 5);
        c.due("the next", q.size(2), 6);
        PointLayers r = Case.after(Case.numbersGiven(NUMBERS - 1));
        c.due("the last", r.put(0, 0, 7), NUMBERS - 1);
        c.due("it is there", r.of(NUMBERS - 1, 2), 7);
        c.due("one is too many", r.put(0, 0, 7), Due.FULL);
        c.due("undone, it may be given", r.undo(), 7);
        c.due("again", r.put(1, 1, 8), NUMBERS - 1);
    }

    /** 60 points, 59 ghosts: at 0, 1 to 58, 1 and at 59, 0. */
    private void fullest() {
        Case.Made made = p -> {
            for (int i = 0; i < 60; i++) {
                p.put(i, 0, 1);
            }
            for (int i = 0; i < 59; i++) {
                p.move(i, i, 1);
            }
            Due.tell(p, "[0,58,1,1];");
        };
        c.changesNothing("nth", 118, made, p -> p.nth(59));
        c.changesNothing("many", 60, made, p -> p.many(LOW, HIGH, LOW, HIGH));
        c.changesNothing("kth", 59, made, p -> p.kth(LOW, HIGH, LOW, HIGH, 59));
        c.changesNothing("half", 29, made, p -> p.half(LOW, HIGH, LOW, HIGH));
        c.changesNothing("below", 60, made, p -> p.below(HIGH, HIGH));
        c.changesNothing("ring", 59, made, p -> p.ring(0, 0, 60));
        c.changesNothing("near", 59, made, p -> p.near(HIGH, 0));
        c.changesNothing("strip", 1, made, p -> p.strip(0));
        c.changesNothing("square", 60, made, p -> p.square(300, 0));
        c.changesNothing("square of 0", 0, made, p -> p.square(0, 1));
        c.changesNothing("pairs", 0, made, p -> p.pairs());
        c.changesNothing("stairs", 2, made, p -> p.stair(-1));
        c.changesNothing("inside", 59, made, p -> p.inside());
        c.changesNothing("found", 118, made, p -> p.found(58));
        c.isUndone("sweep", 60, Case.and(made, p -> p.undo()), p -> p.sweep(LOW, HIGH, LOW, HIGH));
    }

    private void places() {
        c.terms("X, Y (-500 .. 500)");
        c.limits("put x", LOW, HIGH, Case.RICH, (p, v) -> p.put(v, 0, 1));
        c.limits("put y", LOW, HIGH, Case.RICH, (p, v) -> p.put(0, v, 1));
        for (int v : new int[] {LOW, HIGH}) {
            PointLayers p = Case.at(v, -v);
            c.due("x", p.of(0, 0), v);
            c.due("y", p.of(0, 1), -v);
        }

        c.terms("a WEIGHT (1 .. 100)");
        c.limits("put w", 1, 100, Case.RICH, (p, v) -> p.put(0, 0, v));
        PointLayers w = new PointLayers();
        w.put(0, 0, 1);
        w.put(0, 0, 100);
        c.due("1", w.of(0, 2), 1);
        c.due("100", w.of(1, 2), 100);

        c.terms("Several may have the same X, Y");
        PointLayers same = Case.at(5, -5, 5, -5, 5, -5);
        c.due("three of one place", same.many(5, 5, -5, -5), 3);
        c.due("each of its own number", same.nth(2), 2);
        same.take(1);
        c.due("the first stays", same.nth(0), 0);
        c.due("the third stays", same.nth(1), 2);
        c.due("two are left", same.many(5, 5, -5, -5), 2);
    }

    private void kinds() {
        c.terms("THE COUNTER has a KIND, 0 .. 5 (0 at first)");
        c.due("at first", new PointLayers().size(3), 0);
        c.limits("counter", 0, 5, Case.RICH, (p, v) -> p.counter(v));

        c.terms(", each under the one told");
        // What a kind is under shows by what it takes over: no weight from ONE, the weight from HEAVY.
        c.due("EVEN, as ONE's, has no weight", counted(2, 0, 2, 2, 50), 1);
        c.due("TWICE, as HEAVY's, has it", counted(3, 0, 2, 2, 50), 100);
        c.due("NORTH, as HEAVY's, has it once", counted(4, 0, 2, 2, 50), 50);
        c.due("FRESH, as NORTH's, has it in the north", counted(5, 1, 2, 2, 50), 51);
        c.due("FRESH, as NORTH's, has it not in the south", counted(5, 1, 2, -2, 50), 1);
    }

    /** What a point of number n counts by a kind. */
    private static int counted(int kind, int n, int x, int y, int w) {
        PointLayers p = new PointLayers();
        for (int i = 0; i < n; i++) {
            p.put(0, 0, 1);
        }
        p.put(x, y, w);
        p.counter(kind);
        return p.of(n, 3);
    }

    private void counts() {
        c.terms("by it a POINT of NUMBER n, X x, Y y, WEIGHT w counts 0 ONE: 1.");
        c.due("light", counted(0, 0, 1, -1, 1), 1);
        c.due("heavy", counted(0, 9, 0, -1, 100), 1);

        c.terms("1 HEAVY (under ONE): w.");
        c.due("light", counted(1, 0, 1, -1, 1), 1);
        c.due("heavy", counted(1, 9, 0, -1, 100), 100);

        c.terms("2 EVEN (under ONE): ONE's, if x and y together are even, else 0.");
        int[][] even = {{0, 0}, {-1, 1}, {-1, -1}, {1, 1}, {LOW, LOW}, {HIGH, HIGH}, {-3, -499}, {499, LOW + 1}};
        for (int[] e : even) {
            c.due(e[0] + " and " + e[1], counted(2, 0, e[0], e[1], 100), 1);
        }
        int[][] odd = {{1, 0}, {0, 1}, {-1, 0}, {0, -1}, {-2, 1}, {LOW, LOW + 1}, {HIGH, 499}, {LOW, 499}};
        for (int[] o : odd) {
            c.due(o[0] + " and " + o[1], counted(2, 0, o[0], o[1], 100), 0);
        }

        c.terms("3 TWICE (under HEAVY): twice HEAVY's.");
        c.due("light", counted(3, 0, 1, -1, 1), 2);
        c.due("heavy", counted(3, 9, 0, -1, 100), 200);

        c.terms("4 NORTH (under HEAVY): HEAVY's, if y is 0 or more, else 0.");
        c.due("y 0", counted(4, 0, -9, 0, 33), 33);
        c.due("y 1", counted(4, 0, -9, 1, 33), 33);
        c.due("y -1", counted(4, 0, 9, -1, 33), 0);
        c.due("y 500", counted(4, 0, -9, HIGH, 33), 33);
        c.due("y -500", counted(4, 0, 9, LOW, 33), 0);

        c.terms("5 FRESH (under NORTH): NORTH's and what n leaves over by 10.");
        c.due("n 0", counted(5, 0, 0, 0, 33), 33);
        c.due("n 9", counted(5, 9, 0, 0, 33), 42);
        c.due("n 10", counted(5, 10, 0, 0, 33), 33);
        c.due("n 11", counted(5, 11, 0, 0, 33), 34);
        c.due("n 9, y -1", counted(5, 9, 0, -1, 33), 9);
        c.due("n 10, y -1", counted(5, 10, 0, -1, 33), 0);
        PointLayers last = Case.after(Case.numbersGiven(NUMBERS - 1));
        last.put(0, -1, 50);
        last.counter(5);
        c.due("n 9999, y -1", last.of(NUMBERS - 1, 3), 9);
    }

    private static long drawn(long x) {
        return (x * 1103515245L + 12345L) % 2147483648L;
    }

    private void draws() {
        c.terms("DRAWS by a SEED (0 .. 999999)");
        c.limits("scatter by a seed", 0, 999999, Case.RICH, (p, v) -> p.scatter(v, 1));

        c.terms("X is SEED at first; each time it becomes X times 1103515245 and 12345, by 2147483648 what is left over.");
        // By hand: 12345 and 12345 / 65536 is 0; the next two X are 1406932606 and 654583775.
        PointLayers p = new PointLayers();
        p.scatter(0, 1);
        c.due("x by seed 0", p.of(0, 0), 0 - 500);
        c.due("y by seed 0", p.of(0, 1), 1406932606L / 65536 % 1001 - 500);
        c.due("weight by seed 0", p.of(0, 2), 1 + 654583775L / 65536 % 100);
        // 999999 times 1103515245 is far above an int: nothing of it may be lost.
        PointLayers q = new PointLayers();
        q.scatter(999999, 1);
        c.due("x by seed 999999", q.of(0, 0), drawn(999999) / 65536 % 1001 - 500);
        PointLayers one = new PointLayers();
        PointLayers other = new PointLayers();
        one.scatter(7, 3);
        other.put(1, 1, 1);
        other.undo();
        other.scatter(7, 3);
        c.due("the same seed draws the same", one.of(2, 0), other.of(2, 0));
        one.scatter(7, 1);
        c.due("anew by each call", one.of(3, 0), one.of(0, 0));
    }

    private void whatIsUndone() {
        c.terms("UNDO: POINTS, LAYERS, GHOSTS, CARRIED, how often all was LAID ANEW, THE COUNTER, the next NUMBER "
            + "as ahead of the last call that changed POINTS, THE COUNTER");
        c.isUndone("put", 21, Case.RICH, p -> p.put(1, 2, 3));
        c.isUndone("take", 4, Case.RICH, p -> p.take(20));
        c.isUndone("move", 21, Case.RICH, p -> p.move(20, 5, 5));
        c.isUndone("scatter", 49, Case.RICH, p -> p.scatter(5, 30));
        c.isUndone("sweep, all laid anew again and again", 19, Case.RICH, p -> p.sweep(LOW, HIGH, LOW, HIGH));
        c.isUndone("counter", 1, Case.RICH, p -> p.counter(5));
        c.isUndone("counter told what it is", 1, Case.RICH, p -> p.counter(1));
        c.isUndone("mow", 1, Case.RICH, p -> p.mow());
        PointLayers p = Case.after(Case.RICH);
        p.take(0);
        p.counter(4);
        p.undo();
        c.due("only the last: the counter is back", p.size(3), 1);
        c.due("the point is still gone", p.of(0, 0), Due.BAD);
        p.undo();
        c.due("then the point is back", p.nth(0), 0);
        untouchedByUndo();

        c.terms("(told: U; 8 at most are known)");
        PointLayers q = new PointLayers();
        for (int i = 1; i <= 10; i++) {
            q.put(i, i, i);
            c.due("known behind " + i, q.size(5), Math.min(i, 8));
        }
        for (int left = 7; left >= 0; left--) {
            c.due("undo", q.undo(), left);
        }
        c.due("a ninth", q.undo(), Due.NO);
        c.due("the first two can not be undone", q.size(0), 2);
        q.put(7, 7, 7);
        c.due("one more is known", q.size(5), 1);
        c.due("and is undone", q.undo(), 0);
        c.due("to the two", q.size(2), 2);
    }

    private void untouchedByUndo() {
        PointLayers p = new PointLayers();
        p.put(1, 1, 1);
        p.count(0, 0, 0, 0);
        p.odds(1, 1, 1, 1, 1, 7);
        Due.tell(p, Case.UNIT + ";");
        p.image(1);
        p.put(900, 0, 0);
        p.undo();
        c.due("points", p.size(0), 0);
        c.due("SEARCHES stay", p.layers(3), 1);
        c.due("THE FRACTION stays", p.part(0), 7);
        c.due("THE TEXT stays", p.size(6), 10);
        c.due("THE AREA stays", p.covers(1, 1), 1);
        c.due("STATUS stays", p.status(0), 1);
        c.due("an IMAGE stays", p.from(1), 1);
        c.due("with its point", p.size(0), 1);
    }

    private void newObject() {
        c.says(1, "As told; no POINTS.");
        PointLayers p = new PointLayers();
        for (int what = 0; what <= 7; what++) {
            c.due("size " + what, p.size(what), 0);
        }
        for (int what = 0; what <= 4; what++) {
            c.due("layers " + what, p.layers(what), 0);
        }
        for (int what = 0; what <= 2; what++) {
            c.due("status " + what, p.status(what), 0);
        }
        c.due("above", p.part(0), 0);
        c.due("below", p.part(1), 1);
        c.due("no point", p.nth(0), Due.NONE);
        c.due("none of number 0", p.of(0, 0), Due.BAD);
        c.due("nothing to undo", p.undo(), Due.NO);
        for (int i = 0; i < 2; i++) {
            c.due("no image " + i, p.from(i), Due.NO);
        }
        for (int size = 1; size <= 64; size *= 2) {
            c.due("no layer of " + size, p.inLayer(size, 0, LOW, HIGH, LOW, HIGH), Due.NONE);
            c.due("none of ghosts of " + size, p.inLayer(size, 1, LOW, HIGH, LOW, HIGH), Due.NONE);
        }
        PointLayers q = new PointLayers();
        q.put(1, 1, 1);
        c.due("one object is nothing to another", p.size(0), 0);
    }

    private void put() {
        c.says(2, "A POINT comes: its NUMBER.");
        PointLayers p = new PointLayers();
        c.due("the first", p.put(HIGH, LOW, 100), 0);
        c.due("x", p.of(0, 0), HIGH);
        c.due("y", p.of(0, 1), LOW);
        c.due("weight", p.of(0, 2), 100);
        c.due("there is one", p.size(0), 1);
        c.due("the second", p.put(LOW, HIGH, 1), 1);

        c.says(2, "U.");
        c.isUndone("the first", 0, Case.NEW, q -> q.put(1, 1, 1));
        c.isUndone("one more", 21, Case.RICH, q -> q.put(1, 1, 1));

        c.says(2, "BAD");
        c.limits("x", LOW, HIGH, Case.RICH, (q, v) -> q.put(v, 0, 1));
        c.limits("y", LOW, HIGH, Case.RICH, (q, v) -> q.put(0, v, 1));
        c.limits("weight", 1, 100, Case.RICH, (q, v) -> q.put(0, 0, v));
        c.refused("BAD ahead of FULL", Due.BAD, Case.SIXTY, q -> q.put(HIGH + 1, 0, 1));

        c.says(2, "FULL: there are 60");
        c.refused("a 61st", Due.FULL, Case.SIXTY, q -> q.put(0, 0, 1));
        PointLayers sixty = Case.after(Case.SIXTY);
        sixty.take(0);
        c.due("a 60th", sixty.put(0, 0, 1), sixty.size(2) - 1);

        c.says(2, "or NUMBERS are at an end.");
        PointLayers end = Case.after(Case.numbersGiven(NUMBERS - 1));
        c.due("the last", end.put(0, 0, 1), NUMBERS - 1);
        c.refusedAtTheEnd("none is left", Due.FULL, Case.numbersGiven(NUMBERS), q -> q.put(0, 0, 1));
        c.refusedAtTheEnd("BAD ahead of FULL", Due.BAD, Case.numbersGiven(NUMBERS), q -> q.put(0, 0, 0));
    }

    private void take() {
        c.says(3, "A POINT is taken away: its WEIGHT.");
        PointLayers p = new PointLayers();
        p.put(0, 0, 1);
        p.put(0, 0, 100);
        p.put(0, 0, 50);
        c.due("a light one", p.take(0), 1);
        c.due("a heavy one", p.take(1), 100);
        c.due("one is left", p.size(0), 1);
        c.due("the last one", p.take(2), 50);
        c.due("none is left", p.size(0), 0);
        p.counter(0);
        p.put(0, 0, 9);
        c.due("its weight, not what it counts", p.take(3), 9);

        c.says(3, "U.");
        c.isUndone("take", 4, Case.RICH, q -> q.take(20));
        c.isUndone("the only one", 1, Case.putAt(3, 3), q -> q.take(0));

        c.says(3, "BAD: no such one is there.");
        c.refused("none is there", Due.BAD, Case.NEW, q -> q.take(0));
        c.refused("gone, a ghost", Due.BAD, Case.RICH, q -> q.take(3));
        c.refused("the next number", Due.BAD, Case.RICH, q -> q.take(21));
        c.refused("below 0", Due.BAD, Case.RICH, q -> q.take(-1));
        c.refused("far", Due.BAD, Case.RICH, q -> q.take(Integer.MAX_VALUE));
        c.refused("far", Due.BAD, Case.RICH, q -> q.take(Integer.MIN_VALUE));
        Case.Made anew = Case.and(Case.putAt(1, 1, 2, 2), q -> {
            q.take(0);
            q.take(1);
        });
        c.refused("gone, all laid anew behind it", Due.BAD, anew, q -> q.take(1));
        c.refused("undone", Due.BAD, Case.and(Case.putAt(1, 1, 2, 2), q -> q.undo()), q -> q.take(1));
    }

    private void move() {
        c.says(4, "A POINT is taken away, then one with its WEIGHT comes elsewhere: the new NUMBER.");
        PointLayers p = Case.at(1, 2, 3, 4);
        c.due("moved", p.move(1, LOW, HIGH), 2);
        c.due("the old one is gone", p.of(1, 0), Due.BAD);
        c.due("x", p.of(2, 0), LOW);
        c.due("y", p.of(2, 1), HIGH);
        c.due("weight", p.of(2, 2), 2);
        c.due("as many as were", p.size(0), 2);
        c.due("one ghost, one point, then two", p.layers(1), 1);
        c.due("not laid anew", p.layers(4), 0);
        PointLayers one = Case.at(1, 2);
        c.due("the only one", one.move(0, 1, 2), 1);
        c.due("laid anew ahead of the one that comes", one.layers(4), 1);
        c.due("no ghosts", one.layers(1), 0);
        c.due("one layer", one.layers(0), 1);
        PointLayers sixty = Case.after(Case.SIXTY);
        int next = sixty.size(2);
        c.due("with 60 there is room", sixty.move(20, 0, 0), next);
        c.due("60 stay", sixty.size(0), 60);

        c.says(4, "U (one for both).");
        c.isUndone("move", 21, Case.RICH, q -> q.move(20, LOW, LOW));
        c.isUndone("the only one", 1, Case.putAt(3, 3), q -> q.move(0, 4, 4));

        c.says(4, "BAD");
        c.refused("none is there", Due.BAD, Case.NEW, q -> q.move(0, 0, 0));
        c.refused("a ghost", Due.BAD, Case.RICH, q -> q.move(3, 0, 0));
        c.refused("the next number", Due.BAD, Case.RICH, q -> q.move(21, 0, 0));
        c.refused("below 0", Due.BAD, Case.RICH, q -> q.move(-1, 0, 0));
        c.limits("x", LOW, HIGH, Case.RICH, (q, v) -> q.move(0, v, 0));
        c.limits("y", LOW, HIGH, Case.RICH, (q, v) -> q.move(0, 0, v));

        c.says(4, "FULL: NUMBERS are at an end.");
        PointLayers end = Case.after(Case.numbersGiven(NUMBERS - 1));
        c.due("the last", end.move(NUMBERS - 2, 0, 0), NUMBERS - 1);
        c.refusedAtTheEnd("none is left", Due.FULL, Case.numbersGiven(NUMBERS), q -> q.move(NUMBERS - 1, 0, 0));
        c.refusedAtTheEnd("BAD first: no such", Due.BAD, Case.numbersGiven(NUMBERS), q -> q.move(NUMBERS, 0, 0));
        c.refusedAtTheEnd("BAD first: a place", Due.BAD, Case.numbersGiven(NUMBERS), q -> q.move(NUMBERS - 1, 0, 501));
    }

    private void scatter() {
        c.says(5, "n (1 .. 30) POINTS come by DRAWS:");
        c.limits("n", 1, 30, Case.RICH, (p, v) -> p.scatter(1, v));
        PointLayers p = new PointLayers();
        p.scatter(3, 1);
        c.due("one", p.size(0), 1);
        p.scatter(3, 30);
        c.due("thirty", p.size(0), 31);

        c.says(5, "each time, one behind the other, X is what X by 65536 (cut) leaves over by 1001, less 500; then, drawn "
            + "anew, Y likewise; then, drawn anew, WEIGHT is 1 and what X by 65536 (cut) leaves over by 100:");
        asDrawn(0, 30);
        asDrawn(1, 30);
        asDrawn(999999, 30);
        edgesDrawn();

        c.says(5, "how many there are then.");
        PointLayers q = Case.at(0, 0, 1, 1, 2, 2);
        q.take(1);
        c.due("two and five", q.scatter(4, 5), 7);
        c.due("and one", q.scatter(4, 1), 8);

        c.says(5, "U (one for all).");
        c.isUndone("one", 1, Case.NEW, r -> r.scatter(4, 1));
        c.isUndone("thirty", 49, Case.RICH, r -> r.scatter(4, 30));

        c.says(5, "BAD");
        c.limits("seed", 0, 999999, Case.RICH, (r, v) -> r.scatter(v, 1));
        c.limits("n", 1, 30, Case.NEW, (r, v) -> r.scatter(0, v));
        c.refused("BAD ahead of FULL", Due.BAD, Case.SIXTY, r -> r.scatter(1000000, 30));
        c.refused("BAD ahead of FULL", Due.BAD, Case.SIXTY, r -> r.scatter(0, 31));

        c.says(5, "FULL: there would be more than 60");
        Case.Made thirty = r -> r.scatter(1, 30);
        c.due("just 60", Case.after(thirty).scatter(2, 30), 60);
        Case.Made thirtyOne = Case.and(thirty, r -> r.put(0, 0, 1));
        c.due("just 60", Case.after(thirtyOne).scatter(2, 29), 60);
        c.refused("61", Due.FULL, thirtyOne, r -> r.scatter(2, 30));
        c.refused("one more than 60", Due.FULL, Case.SIXTY, r -> r.scatter(2, 1));

        c.says(5, "or NUMBERS are at an end.");
        PointLayers end = Case.after(Case.numbersGiven(NUMBERS - 10));
        c.due("the last ten", end.scatter(2, 10), end.size(0));
        c.due("the last number", end.nth(end.size(0) - 1), NUMBERS - 1);
        c.due("none is left", end.scatter(2, 1), Due.FULL);
        c.refusedAtTheEnd("not enough for all", Due.FULL, Case.numbersGiven(NUMBERS - 10), r -> r.scatter(2, 11));
        c.refusedAtTheEnd("none is left", Due.FULL, Case.numbersGiven(NUMBERS), r -> r.scatter(2, 1));
    }

    private void asDrawn(int seed, int n) {
        PointLayers p = new PointLayers();
        p.scatter(seed, n);
        long x = seed;
        for (int i = 0; i < n; i++) {
            x = drawn(x);
            c.due("x", p.of(i, 0), x / 65536 % 1001 - 500);
            x = drawn(x);
            c.due("y", p.of(i, 1), x / 65536 % 1001 - 500);
            x = drawn(x);
            c.due("weight", p.of(i, 2), 1 + x / 65536 % 100);
        }
    }

    /** Seeds by which the first point lies on an edge of the field, or is as light or heavy as can be. */
    private void edgesDrawn() {
        long[] left = {0, 1000, 0, 1000, 0, 99};
        int[] due = {LOW, HIGH, LOW, HIGH, 1, 100};
        for (int i = 0; i < due.length; i++) {
            int by = i < 4 ? 1001 : 100;
            int seed = 0;
            while (seed < 999999 && drawnTimes(seed, 1 + i / 2) / 65536 % by != left[i]) {
                seed++;
            }
            PointLayers p = new PointLayers();
            p.scatter(seed, 1);
            c.due("seed " + seed, p.of(0, i / 2), due[i]);
        }
    }

    private static long drawnTimes(long seed, int times) {
        long x = seed;
        for (int i = 0; i < times; i++) {
            x = drawn(x);
        }
        return x;
    }

    private void sweep() {
        c.says(6, "All POINTS of a RECTANGLE are taken away, BY PLACE: how many.");
        PointLayers p = Case.at(5, 0, -5, 9, -5, 3, 6, 0, -6, 0, 5, -1, 5, 10, 100, 100);
        c.due("edges are in it", p.sweep(-5, 5, 0, 9), 3);
        c.due("just outside stays", p.size(0), 5);
        c.due("the first two by place are -5, 3 and -5, 9", p.inLayer(2, 1, -5, -5, 3, 9), 2);
        c.due("the last is 5, 0", p.inLayer(1, 1, 5, 5, 0, 0), 1);
        PointLayers same = Case.at(1, 1, 0, 0, 0, 0, 0, 0, 9, 9, 9, 9, 9, 9);
        c.due("three of one place and one more", same.sweep(0, 1, 0, 1), 4);
        c.due("laid anew behind the fourth", same.layers(4), 1);
        PointLayers all = Case.after(Case.SIXTY);
        c.due("all 60", all.sweep(LOW, HIGH, LOW, HIGH), 60);
        c.due("none is left", all.size(0), 0);
        c.changesNothing("of none", 0, Case.NEW, q -> q.sweep(LOW, HIGH, LOW, HIGH));

        c.says(6, "U (one for all, if any are).");
        c.isUndone("one", 1, Case.putAt(3, 3, 4, 4), q -> q.sweep(3, 3, 3, 3));
        c.isUndone("all", 19, Case.RICH, q -> q.sweep(LOW, HIGH, LOW, HIGH));
        c.changesNothing("none are", 0, Case.putAt(3, 3, 4, 4), q -> q.sweep(5, HIGH, 5, HIGH));

        c.says(6, "BAD.");
        RectanglesBounds.refusedRectangles(c, "sweep", PointLayers::sweep);
    }

    private void counter() {
        c.says(7, "THE COUNTER: what it was.");
        PointLayers p = new PointLayers();
        int[] told = {5, 0, 0, 3, 1, 2, 4};
        int was = 0;
        for (int kind : told) {
            c.due("was", p.counter(kind), was);
            c.due("is", p.size(3), kind);
            was = kind;
        }

        c.says(7, "U.");
        c.isUndone("another kind", 0, Case.NEW, q -> q.counter(5));
        c.isUndone("the same kind", 0, Case.NEW, q -> q.counter(0));

        c.says(7, "BAD.");
        c.limits("counter", 0, 5, Case.RICH, (q, v) -> q.counter(v));
    }

    private void undo() {
        c.says(8, "UNDO: how many more may be.");
        PointLayers p = Case.at(1, 1, 2, 2, 3, 3);
        c.due("two more", p.undo(), 2);
        c.due("one more", p.undo(), 1);
        c.due("none", p.undo(), 0);
        PointLayers q = Case.after(r -> {
            for (int i = 0; i < 9; i++) {
                r.counter(i % 6);
            }
        });
        c.due("seven of eight", q.undo(), 7);
        c.due("the eighth one's", q.size(3), 1);

        c.says(8, "NO: none may be.");
        c.refused("nothing was changed", Due.NO, Case.NEW, r -> r.undo());
        c.refused("all is undone", Due.NO, Case.and(Case.putAt(1, 1), r -> r.undo()), r -> r.undo());
        c.refused("behind an image", Due.NO, Case.and(Case.RICH, r -> r.from(0)), r -> r.undo());
        c.refused("what changes no points is not known", Due.NO, r -> {
            r.sweep(0, 0, 0, 0);
            r.mow();
            r.put(0, 0, 0);
            r.type(' ');
            r.clear();
            r.area();
            r.image(1);
            r.odds(0, 0, 0, 0, 0, 0);
            r.count(0, 0, 0, 0);
        }, r -> r.undo());
    }

    private void of() {
        c.says(9, "Of a POINT: X (0), Y (1), WEIGHT (2), how much it counts (3).");
        Case.Made made = p -> {
            p.put(LOW, HIGH, 100);
            p.put(HIGH, LOW, 1);
            p.counter(3);
        };
        int[][] due = {{LOW, HIGH, 100, 200}, {HIGH, LOW, 1, 2}};
        for (int n = 0; n < 2; n++) {
            for (int what = 0; what < 4; what++) {
                int number = n;
                int asked = what;
                c.changesNothing("of " + n + ", " + what, due[n][what], made, p -> p.of(number, asked));
            }
        }

        c.says(9, "BAD.");
        c.limits("what", 0, 3, Case.RICH, (p, v) -> p.of(0, v));
        c.refused("none is there", Due.BAD, Case.NEW, p -> p.of(0, 0));
        c.refused("a ghost", Due.BAD, Case.RICH, p -> p.of(3, 0));
        c.refused("the next number", Due.BAD, Case.RICH, p -> p.of(21, 0));
        c.refused("below 0", Due.BAD, Case.RICH, p -> p.of(-1, 0));
        c.refused("far", Due.BAD, Case.RICH, p -> p.of(Integer.MAX_VALUE, 0));
    }

    private void nth() {
        c.says(10, "The k-th POINT by NUMBERS; NONE.");
        Case.Made made = Case.and(Case.putAt(9, 9, 1, 1, 5, 5, 0, 0), p -> p.take(1));
        int[] due = {0, 2, 3, Due.NONE, Due.NONE};
        for (int k = 0; k < due.length; k++) {
            int asked = k;
            c.changesNothing("nth " + k, due[k], made, p -> p.nth(asked));
        }
        c.changesNothing("far", Due.NONE, made, p -> p.nth(Integer.MAX_VALUE));
        c.changesNothing("none is there", Due.NONE, Case.NEW, p -> p.nth(0));
        PointLayers sixty = Case.after(Case.SIXTY);
        c.due("the 60th", sixty.nth(59), sixty.size(2) - 1);
        c.due("a 61st", sixty.nth(60), Due.NONE);

        c.says(10, "BAD: k below 0.");
        c.refused("-1", Due.BAD, Case.RICH, p -> p.nth(-1));
        c.refused("far", Due.BAD, Case.RICH, p -> p.nth(Integer.MIN_VALUE));
    }
}
