import java.util.Arrays;

/** All that can be seen of an object but STATUS. To look uses the object up: it goes back, and on from images. */
final class Seen {
    private static final int[] PLACES = {-500, -50, 0, 1, 7, 500};

    private final PointLayers p;
    private long[] row = new long[64];
    private int filled;

    private Seen(PointLayers p) {
        this.p = p;
    }

    static long[] all(PointLayers p) {
        Seen seen = new Seen(p);
        seen.now();
        seen.back();
        seen.images();
        seen.text();
        return Arrays.copyOf(seen.row, seen.filled);
    }

    private void add(long v) {
        if (filled == row.length) {
            row = Arrays.copyOf(row, 2 * filled);
        }
        row[filled++] = v;
    }

    private void now() {
        add(p.digest());
        add(p.part(0));
        add(p.part(1));
        field();
        for (int k = 0; k < 4; k++) {
            add(p.found(k));
        }
        add(p.inside());
        area();
    }

    private void field() {
        add(p.digest());
        for (int size = 1; size <= 64; size *= 2) {
            add(p.inLayer(size, 0, -500, 0, -500, 500));
            add(p.inLayer(size, 1, -500, 0, -500, 500));
        }
    }

    private void area() {
        for (int x : PLACES) {
            for (int y = 0; y < 2; y++) {
                add(p.covers(x, PLACES[2 * y + 1]));
            }
        }
    }

    private void back() {
        for (int i = p.size(5); i > 0; i--) {
            add(p.undo());
            field();
        }
        add(p.undo());
    }

    private void images() {
        for (int i = 0; i < 2; i++) {
            add(p.from(i));
            field();
            area();
        }
    }

    private void text() {
        add(p.area());
        area();
        add(p.clear());
    }
}
