import java.io.IOException;
import java.util.List;

/**
 * Each sentence of the document that names a boundary case, just inside it and just outside: a test quotes the words
 * that it is of, and at the end no word of the Terms or of a promise may be left without one.
 */
public final class BoundariesTest {
    /** Words that no call can show: how it is inside, and under which heads the interface lists its calls. */
    private static final String[] NOT_SEEN = {
        "(Within, each layer is a tree of lists with bridges from one list down to the next, searched once; outside only "
            + "points, layers, counts are seen.)",
        "Ahead of the calls put, take, move, scatter, sweep, counter, undo, of, nth the interface says: ---- points.",
        "Ahead of the calls count, many, kth, half, below, ring, near, strip, square, pairs, stair the interface says: ---- "
            + "rectangles.",
        "Ahead of the calls layers, inLayer the interface says: ---- layers.",
        "Ahead of the calls type, clear, area, inside, covers, found, mow the interface says: ---- areas.",
        "Ahead of the calls odds, part, image, from, status, size, digest the interface says: ---- odds, what there is."};

    public static void main(String[] args) throws IOException {
        Due due = new Due();
        Doc doc = new Doc();
        Case c = new Case(due, doc);
        for (String words : NOT_SEEN) {
            due.holds("the words stand in the document: " + words, doc.name(Doc.TERMS, words));
        }
        new PointsBounds(c).go();
        new RectanglesBounds(c).go();
        new LayersBounds(c).go();
        new AreasBounds(c).go();
        new OddsBounds(c).go();
        due.promise("all words of the document");
        List<String> unnamed = doc.unnamed();
        due.holds("have a test, but not " + unnamed, unnamed.isEmpty());
        due.holds("the Terms and 37 promises were read", !Doc.isThere() || doc.sections() == 38);
        due.end();
    }
}
