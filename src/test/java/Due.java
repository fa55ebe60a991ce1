/** Counts answers that are not as due, and ends the program with 1 if there was one. */
final class Due {
    static final int NONE = -2000000001, BAD = -2000000002, NO = -2000000003, FULL = -2000000004;
    private static final int SHOWN_MOST = 40;

    private String promise = "";
    private int asked;
    private int wrong;

    void promise(String name) {
        promise = name;
    }

    void due(String call, long got, long want) {
        asked++;
        if (got != want) {
            wrong++;
            if (wrong <= SHOWN_MOST) {
                System.out.println(promise + ": " + call + " answered " + got + ", due is " + want);
            }
        }
    }

    void holds(String what, boolean does) {
        due(what, does ? 1 : 0, 1);
    }

    boolean isClean() {
        return wrong == 0;
    }

    void end() {
        System.out.println(asked + " answers, " + wrong + " not as due");
        if (wrong != 0 || asked == 0) {
            System.exit(1);
        }
    }

    static void write(PointLayers p, String text) {
        for (int i = 0; i < text.length(); i++) {
            p.type(text.charAt(i));
        }
    }

    /** Clears, writes the text, and tells what area() says of it. */
    static int tell(PointLayers p, String text) {
        p.clear();
        write(p, text);
        return p.area();
    }
}
