import java.util.Arrays;

/** What the tests of boundary cases share: of which words of the document they are, answers due, what stays as it was. */
final class Case {
    static final int LOW = -500, HIGH = 500;
    static final String UNIT = "[0,1,0,1]";

    /** The calls by which an object is made what a test needs. */
    interface Made {
        void on(PointLayers p);
    }

    /** The call that is tested. */
    interface Asked {
        long on(PointLayers p);
    }

    static final Made NEW = p -> { };

    /** Something of all there is: ghosts, an image, an area, a text behind it, searches, a fraction, what may be undone. */
    static final Made RICH = p -> {
        p.scatter(9, 20);
        p.take(3);
        p.image(0);
        p.counter(1);
        p.put(0, 0, 4);
        p.take(7);
        p.count(0, 0, 0, 0);
        p.odds(-50, 50, -50, 50, 1, 3);
        Due.tell(p, "[0,7,-50,50]+[-50,-40,0,9];");
        p.clear();
        Due.write(p, "![0,1,0,1];");
    };

    static final Made SIXTY = p -> {
        RICH.on(p);
        p.scatter(9, 30);
        p.scatter(9, 60 - p.size(0));
    };

    private final Due due;
    private final Doc doc;

    Case(Due due, Doc doc) {
        this.due = due;
        this.doc = doc;
    }

    /** The answers that follow are asked by these words of a promise. */
    void says(int promise, String words) {
        says("" + promise, words);
    }

    /** The answers that follow are asked by these words of the Terms. */
    void terms(String words) {
        says(Doc.TERMS, words);
    }

    private void says(String section, String words) {
        due.promise(section + " \"" + words + "\"");
        due.holds("the words stand in the document", doc.name(section, words));
    }

    void due(String call, long got, long want) {
        due.due(call, got, want);
    }

    static PointLayers after(Made made) {
        PointLayers p = new PointLayers();
        made.on(p);
        return p;
    }

    static Made and(Made made, Made more) {
        return p -> {
            made.on(p);
            more.on(p);
        };
    }

    /** Points at these places, of weights 1, 2, .. */
    static PointLayers at(int... places) {
        return after(putAt(places));
    }

    static Made putAt(int... places) {
        return p -> {
            for (int i = 0; i + 1 < places.length; i += 2) {
                p.put(places[i], places[i + 1], 1 + i / 2);
            }
        };
    }

    /** So many numbers are given, in as few calls as it goes: 512 is all that is promised. */
    static Made numbersGiven(int next) {
        return p -> {
            int given = 0;
            for (int turn = 1; given < next; turn++) {
                int n = Math.min(30, next - given);
                p.scatter(turn, n);
                given += n;
                if (turn % 2 == 0 && given < next) {
                    p.sweep(LOW, HIGH, LOW, HIGH);
                }
            }
        };
    }

    /** Refused: it says why, STATUS has one more of it, all else is as it was. */
    void refused(String call, int why, Made made, Asked asked) {
        leavesAll(call, why, made, asked);
    }

    /** Answered, not refused, and nothing is changed by it. */
    void changesNothing(String call, long want, Made made, Asked asked) {
        due(call + " is told as no refusal", want >= Due.FULL && want <= Due.BAD ? 1 : 0, 0);
        leavesAll(call, want, made, p -> {
            long first = asked.on(p);
            due(call + " asked again", asked.on(p), first);
            return first;
        });
    }

    private void leavesAll(String call, long want, Made made, Asked asked) {
        PointLayers p = after(made);
        PointLayers twin = after(made);
        due(call, asked.on(p), want);
        for (int kind = 0; kind < 3; kind++) {
            due(call + " then status " + kind, p.status(kind), twin.status(kind) + (want == Due.BAD - kind ? 1 : 0));
        }
        alike(call + " leaves all as it was", p, twin);
    }

    /** As refused, where there are too few calls left to look at all. */
    void refusedAtTheEnd(String call, int why, Made made, Asked asked) {
        PointLayers p = after(made);
        int kind = Due.BAD - why;
        long digest = p.digest();
        int had = p.status(kind);
        due(call, asked.on(p), why);
        due(call + " then status " + kind, p.status(kind), had + 1);
        due(call + " leaves all as it was", p.digest(), digest);
    }

    /** U: one more may be undone, and undo brings all back as it was. */
    void isUndone(String call, long want, Made made, Asked asked) {
        PointLayers p = after(made);
        PointLayers twin = after(made);
        int known = twin.size(5);
        due(call, asked.on(p), want);
        due(call + ": one more may be undone", p.size(5), known + 1);
        due(call + ": undo", p.undo(), known);
        alike(call + ": undone, all is as it was", p, twin);
    }

    void alike(String what, PointLayers p, PointLayers twin) {
        due.holds(what, Arrays.equals(Seen.all(p), Seen.all(twin)));
    }

    /** A number that must be from low to high: the answers at both, and refused just outside and far off. */
    void limits(String call, int low, int high, Made made, Limited asked) {
        for (int v : new int[] {low, high}) {
            int bad = after(made).status(0);
            PointLayers p = after(made);
            due.holds(call + " of " + v + " is taken", asked.on(p, v) != Due.BAD);
            due(call + " of " + v + " is not counted as BAD", p.status(0), bad);
        }
        for (int v : new int[] {low - 1, high + 1, Integer.MIN_VALUE, Integer.MAX_VALUE}) {
            refused(call + " of " + v, Due.BAD, made, p -> asked.on(p, v));
        }
    }

    /** A call of which one number is tried. */
    interface Limited {
        long on(PointLayers p, int v);
    }
}
