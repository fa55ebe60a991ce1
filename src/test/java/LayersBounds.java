/** Boundary cases of LAYERS, GHOSTS and of when all is LAID ANEW, and of promises 22 and 23. */
final class LayersBounds {
    private static final int LOW = Case.LOW, HIGH = Case.HIGH;

    private final Case c;

    LayersBounds(Case c) {
        this.c = c;
    }

    void go() {
        sizes();
        carried();
        ghosts();
        laidAnew();
        layers();
        inLayer();
    }

    private static PointLayers row(int n) {
        PointLayers p = new PointLayers();
        for (int i = 0; i < n; i++) {
            p.put(i, 0, 1);
        }
        return p;
    }

    private static void takeUpTo(PointLayers p, int n) {
        for (int i = 0; i < n; i++) {
            p.take(i);
        }
    }

    /** The layers, told by the sum of their sizes: each one there has just so many in it, no other one is there. */
    private void layersAre(String what, PointLayers p, int ofGhosts, int sum) {
        c.due(what + ", the sum", p.layers(ofGhosts), sum);
        for (int size = 1; size <= 64; size *= 2) {
            int due = (sum & size) == 0 ? Due.NONE : size;
            c.due(what + ", that of " + size, p.inLayer(size, ofGhosts, LOW, HIGH, LOW, HIGH), due);
        }
    }

    private void sizes() {
        c.terms("LAYERS of 1, 2, 4, 8, .. POINTS, one of each size at most:");
        for (int n : new int[] {0, 1, 2, 3, 4, 7, 8, 15, 16, 31, 32, 59, 60}) {
            layersAre(n + " came", row(n), 0, n);
        }
        PointLayers p = row(60);
        for (int i = 0; i < 3; i++) {
            p.move(i, i, 1);
        }
        layersAre("63", p, 0, 63);
        p.move(3, 3, 1);
        layersAre("64: the greatest size", p, 0, 64);
    }

    private void carried() {
        c.terms("as a POINT comes, those of 1, 2, 4, .. that are there, from 1 on without a gap, are taken together with it "
            + "into one LAYER of the next size (where there is none of 1, it makes one of 1): as many as are in that then "
            + "are CARRIED.");
        int[] due = {1, 2, 1, 4, 1, 2, 1, 8, 1, 2, 1, 4, 1, 2, 1, 16};
        PointLayers p = new PointLayers();
        int sum = 0;
        for (int i = 0; i < 60; i++) {
            p.put(i, 0, 1);
            sum += i == 31 ? 32 : due[i % 16];
            c.due("carried behind " + (i + 1), p.layers(2), sum);
        }
        PointLayers gap = row(9);
        gap.put(9, 0, 1);
        c.due("behind 8 and 1: that of 1, not that of 8", gap.inLayer(2, 0, 8, 9, 0, 0), 2);
        c.due("8 stays", gap.inLayer(8, 0, 0, 7, 0, 0), 8);
        PointLayers most = row(60);
        for (int i = 0; i < 3; i++) {
            most.move(i, i, 1);
        }
        int had = most.layers(2);
        most.move(3, 3, 1);
        c.due("64 are carried by the point, 4 by its ghost", most.layers(2), had + 64 + 4);
        PointLayers many = row(3);
        int ahead = many.layers(2);
        many.scatter(1, 5);
        c.due("scattered ones come one by one", many.layers(2), ahead + 4 + 1 + 2 + 1 + 8);
    }

    private void ghosts() {
        c.terms("A POINT that is taken away stays in its LAYER, and comes as a GHOST into LAYERS of GHOSTS, just the same "
            + "way.");
        PointLayers p = row(16);
        int had = p.layers(2);
        int[] due = {1, 3, 4, 8, 9, 11, 12, 20};
        for (int i = 0; i < 8; i++) {
            p.take(15 - i);
            layersAre("points' layers stay", p, 0, 16);
            layersAre("ghosts", p, 1, i + 1);
            c.due("carried", p.layers(2), had + due[i]);
            c.due("ghosts", p.size(1), i + 1);
        }
        c.due("points", p.size(0), 8);
        PointLayers most = row(60);
        for (int i = 0; i < 59; i++) {
            most.move(i, i, 1);
        }
        layersAre("as many as can be", most, 0, 119);
        layersAre("ghosts as many as can be", most, 1, 59);
    }

    private void laidAnew() {
        c.terms("If there are more GHOSTS than POINTS behind it");
        PointLayers four = row(4);
        takeUpTo(four, 2);
        c.due("two of each: not yet", four.layers(4), 0);
        layersAre("four are laid", four, 0, 4);
        layersAre("two ghosts", four, 1, 2);
        four.take(2);
        c.due("three ghosts, one point: anew", four.layers(4), 1);
        PointLayers one = row(1);
        one.take(0);
        c.due("one ghost, no point: anew", one.layers(4), 1);
        layersAre("nothing is left", one, 0, 0);
        layersAre("no ghosts", one, 1, 0);
        PointLayers odd = row(5);
        takeUpTo(odd, 2);
        c.due("two ghosts, three points: not yet", odd.layers(4), 0);
        odd.take(2);
        c.due("three ghosts, two points: anew", odd.layers(4), 1);
        PointLayers more = row(4);
        takeUpTo(more, 2);
        more.scatter(1, 2);
        more.take(2);
        c.due("two more came, three of each: not yet", more.layers(4), 0);
        more.take(3);
        c.due("four ghosts, two points: anew", more.layers(4), 1);

        c.terms("(behind each one that is taken away)");
        // 8 points: behind the 5th 3 are left, behind the 7th 1, behind the 8th none.
        c.due("sweep", swept(8).layers(4), 3);
        PointLayers mown = row(8);
        Due.tell(mown, "![1,1,1,1];");
        mown.mow();
        c.due("mow", mown.layers(4), 3);
        c.due("carried as by taking one by one", swept(8).layers(2), 20 + 1 + 2 + 1 + 4 + 1 + 1 + 2 + 1);
        PointLayers moved = row(1);
        moved.move(0, 5, 5);
        c.due("move: ahead of the one that comes", moved.layers(4), 1);
        layersAre("one point", moved, 0, 1);

        c.terms(", all is LAID ANEW: the POINTS alone, into LAYERS as how many they are is a sum of 1, 2, 4, .. (nothing is "
            + "CARRIED by it); no GHOSTS.");
        PointLayers p = row(15);
        takeUpTo(p, 7);
        int carried = p.layers(2);
        layersAre("not yet", p, 1, 7);
        p.take(7);
        layersAre("7 points", p, 0, 7);
        layersAre("no ghosts", p, 1, 0);
        c.due("no ghosts", p.size(1), 0);
        c.due("only the 8th ghost is carried", p.layers(2), carried + 8);
        p.put(0, 0, 1);
        layersAre("one more comes to 7", p, 0, 8);
        c.due("as ever", p.layers(2), carried + 8 + 8);

        stayTheSame();

        c.terms("THE COUNTER being told, all stays where it is.");
        PointLayers told = row(7);
        takeUpTo(told, 3);
        int ahead = told.layers(2);
        for (int kind = 5; kind >= 0; kind--) {
            told.counter(kind);
            layersAre("layers", told, 0, 7);
            layersAre("ghosts", told, 1, 3);
            c.due("carried", told.layers(2), ahead);
            c.due("anew", told.layers(4), 0);
        }
    }

    /** Those that are laid anew are as they were, the first and the last of all among them; those gone do not come again. */
    private void stayTheSame() {
        PointLayers p = Case.at(5, -6, 1, 1, 2, 2, 3, 3, -7, 8);
        for (int n = 1; n < 4; n++) {
            p.take(n);
        }
        c.due("anew", p.layers(4), 1);
        int[][] due = {{0, 5, -6, 1}, {4, -7, 8, 5}};
        for (int k = 0; k < 2; k++) {
            c.due("number", p.nth(k), due[k][0]);
            for (int what = 0; what < 3; what++) {
                c.due("of " + what, p.of(due[k][0], what), due[k][1 + what]);
            }
        }
        c.due("no more", p.nth(2), Due.NONE);
        PointLayers again = row(5);
        for (int n : new int[] {2, 0, 1}) {
            again.take(n);
        }
        c.due("anew", again.layers(4), 1);
        again.take(3);
        layersAre("the next ghost is alone", again, 1, 1);
        layerHas(again, 1, 1, 3);
    }

    private static PointLayers swept(int n) {
        PointLayers p = row(n);
        p.sweep(LOW, HIGH, LOW, HIGH);
        return p;
    }

    private void layers() {
        c.says(22, "LAYERS, as the sum of their sizes (0), those of GHOSTS (1), CARRIED (2), SEARCHES (3), how often all was "
            + "LAID ANEW (4).");
        Case.Made made = p -> {
            Case.putAt(1, 1, 2, 2, 3, 3).on(p);
            p.take(0);
            p.take(1);
            p.put(4, 4, 4);
            p.put(5, 5, 5);
            p.take(2);
            p.count(0, 0, 0, 0);
        };
        // 1, 2, 1 carried; ghosts 1, 2, anew with one point; then 2, 1; a ghost 1.
        int[] due = {3, 1, 11, 3, 1};
        for (int what = 0; what < 5; what++) {
            int asked = what;
            c.changesNothing("layers " + what, due[what], made, p -> p.layers(asked));
        }
        PointLayers most = row(60);
        for (int i = 0; i < 59; i++) {
            most.move(i, i, 1);
        }
        c.due("the greatest sum", most.layers(0), 119);
        c.due("of ghosts", most.layers(1), 59);

        c.says(22, "BAD.");
        c.limits("what", 0, 4, Case.RICH, (p, v) -> p.layers(v));
    }

    private void inLayer() {
        c.says(23, "How many POINTS, taken away or not, of the LAYER of so many (1, 2, 4, .. 64; with what = 1 of that of "
            + "GHOSTS) are in a RECTANGLE;");
        Case.Made seven = Case.and(Case.putAt(0, 0, 1, -1, 2, -2, 3, -3, 4, -4, 5, -5, 6, -6), p -> {
            p.take(5);
            p.take(0);
            p.take(3);
        });
        c.changesNothing("4, whole", 4, seven, p -> p.inLayer(4, 0, LOW, HIGH, LOW, HIGH));
        c.changesNothing("4, to its last", 4, seven, p -> p.inLayer(4, 0, 0, 3, -3, 0));
        c.changesNothing("4, none behind its last", 0, seven, p -> p.inLayer(4, 0, 4, HIGH, LOW, HIGH));
        c.changesNothing("2, whole", 2, seven, p -> p.inLayer(2, 0, 4, 5, -5, -4));
        c.changesNothing("2, one of it", 1, seven, p -> p.inLayer(2, 0, 5, 6, -6, -5));
        c.changesNothing("1", 1, seven, p -> p.inLayer(1, 0, 6, 6, -6, -6));
        c.changesNothing("1, none ahead of it", 0, seven, p -> p.inLayer(1, 0, LOW, 5, LOW, HIGH));
        c.changesNothing("2 ghosts", 2, seven, p -> p.inLayer(2, 1, 0, 5, -5, 0));
        c.changesNothing("1 ghost", 1, seven, p -> p.inLayer(1, 1, 3, 3, -3, -3));
        sixtyFour();

        c.says(23, "NONE: there is no such LAYER.");
        for (int size = 8; size <= 64; size *= 2) {
            int asked = size;
            c.changesNothing("none of " + size, Due.NONE, seven, p -> p.inLayer(asked, 0, LOW, HIGH, LOW, HIGH));
        }
        for (int size = 4; size <= 64; size *= 2) {
            int asked = size;
            c.changesNothing("no ghosts of " + size, Due.NONE, seven, p -> p.inLayer(asked, 1, LOW, HIGH, LOW, HIGH));
        }
        c.changesNothing("no points", Due.NONE, Case.NEW, p -> p.inLayer(1, 0, LOW, HIGH, LOW, HIGH));
        c.changesNothing("no ghosts", Due.NONE, Case.putAt(1, 1), p -> p.inLayer(1, 1, LOW, HIGH, LOW, HIGH));
        c.changesNothing("a layer without any in it", 0, Case.putAt(1, 1), p -> p.inLayer(1, 0, 2, 2, 2, 2));

        c.says(23, "BAD.");
        for (int size : new int[] {0, -1, 3, 5, 6, 7, 9, 63, 65, 96, 128, Integer.MIN_VALUE, Integer.MAX_VALUE}) {
            c.refused("size " + size, Due.BAD, Case.RICH, p -> p.inLayer(size, 0, 0, 0, 0, 0));
        }
        for (int size = 1; size <= 64; size *= 2) {
            int asked = size;
            c.limits("what", 0, 1, Case.RICH, (p, v) -> p.inLayer(asked, v, 0, 0, 0, 0));
        }
        RectanglesBounds.refusedRectangles(c, "inLayer", (p, a, b, cc, d) -> p.inLayer(16, 0, a, b, cc, d));
        c.refused("BAD ahead of NONE", Due.BAD, Case.NEW, p -> p.inLayer(1, 0, 1, 0, 0, 0));

        whoIsWhere();
    }

    /** 60 points, four of them moved: the first 60 as they came, of which four are gone, and the four. */
    private void sixtyFour() {
        Case.Made made = p -> {
            for (int i = 0; i < 60; i++) {
                p.put(i, 0, 1);
            }
            for (int i = 0; i < 4; i++) {
                p.move(i, i, 1);
            }
        };
        c.due("64, whole", Case.after(made).inLayer(64, 0, LOW, HIGH, LOW, HIGH), 64);
        c.due("64, the first 60", Case.after(made).inLayer(64, 0, LOW, HIGH, 0, 0), 60);
        c.due("64, the last 4", Case.after(made).inLayer(64, 0, LOW, HIGH, 1, 1), 4);
        c.due("4 ghosts", Case.after(made).inLayer(4, 1, 0, 3, 0, 0), 4);
        c.due("64 ghosts can not be", Case.after(made).inLayer(64, 1, LOW, HIGH, LOW, HIGH), Due.NONE);
    }

    private void whoIsWhere() {
        c.says(23, "(Those that came first, LAID ANEW by NUMBERS, are in the greatest LAYER, the next ones in the next, and "
            + "so on; GHOSTS as they became such; taken away ones are counted, too.)");
        PointLayers p = row(7);
        for (int n : new int[] {6, 0, 5}) {
            p.take(n);
        }
        layerHas(p, 4, 0, 0, 1, 2, 3);
        layerHas(p, 2, 0, 4, 5);
        layerHas(p, 1, 0, 6);
        layerHas(p, 2, 1, 6, 0);
        layerHas(p, 1, 1, 5);
        p.take(2);
        layerHas(p, 2, 0, 1, 3);
        layerHas(p, 1, 0, 4);
        p.put(7, 0, 1);
        layerHas(p, 4, 0, 1, 3, 4, 7);
        p.take(7);
        p.take(1);
        layerHas(p, 2, 1, 7, 1);
        layerHas(p, 4, 0, 1, 3, 4, 7);
        // Undone, then gone in another order: the ghosts are as they became such now.
        p.undo();
        p.undo();
        p.take(3);
        layerHas(p, 1, 1, 3);
    }

    /** The points of row() are told apart by X, which is their number. */
    private void layerHas(PointLayers p, int size, int ofGhosts, int... numbers) {
        for (int x = 0; x < 8; x++) {
            int due = 0;
            for (int n : numbers) {
                due += n == x ? 1 : 0;
            }
            c.due("layer of " + size + ", " + ofGhosts + ": " + x, p.inLayer(size, ofGhosts, x, x, 0, 0), due);
        }
    }
}
