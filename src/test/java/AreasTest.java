/** Promises 24 to 30. */
public final class AreasTest {
    private static final Due D = new Due();
    private static final String ONE = "[0,1,0,1]";

    public static void main(String[] args) {
        typeAndClear();
        area();
        faults();
        depth();
        meanings();
        inside();
        covers();
        found();
        mow();
        D.end();
    }

    private static void typeAndClear() {
        D.promise("24 type, 25 clear");
        PointLayers p = new PointLayers();
        D.due("low", p.type(-1), Due.BAD);
        D.due("high", p.type(128), Due.BAD);
        D.due("clear nothing", p.clear(), 0);
        D.due("0", p.type(0), 1);
        D.due("127", p.type(127), 2);
        for (int i = 3; i <= 120; i++) {
            D.due("type", p.type(' '), i);
        }
        D.due("121st", p.type(' '), Due.FULL);
        D.due("BAD ahead of FULL", p.type(128), Due.BAD);
        D.due("bytes", p.size(6), 120);
        D.due("clear", p.clear(), 120);
        D.due("clear", p.clear(), 0);
        D.due("type", p.type('['), 1);
        D.due("no U", p.size(5), 0);
    }

    private static void area() {
        D.promise("26 area");
        PointLayers p = new PointLayers();
        D.due("one", Due.tell(p, ONE + ";"), 1);
        D.due("two", Due.tell(p, ONE + "+" + ONE + ";"), 2);
        D.due("size 7", p.size(7), 2);
        D.due("the text stays", p.size(6), 20);
        D.due("again", p.area(), 2);
        StringBuilder all = new StringBuilder(ONE);
        for (int i = 1; i < 12; i++) {
            all.append('&').append(ONE);
        }
        D.due("twelve", Due.tell(p, all.append(';').toString()), 12);
        D.due("size 7", p.size(7), 12);
        D.due("in it", p.covers(1, 1), 1);
        D.due("clear leaves the area", p.clear(), 120);
        D.due("in it", p.covers(1, 1), 1);
        D.due("a fault leaves it", Due.tell(p, "["), -11);
        D.due("in it", p.covers(1, 1), 1);
        D.due("size 7", p.size(7), 12);
        D.due("no U", p.size(5), 0);
        D.due("a fault is not refused", p.status(0), 0);
        D.due("blanks", Due.tell(p, "  [ 0 , 1 , 0 , 1 ]  &  ( ! [ 5 ,6,7,8 ] ) ;  "), 2);
        D.due("figures with noughts", Due.tell(p, "[-500,500,-00,007];"), 1);
        D.due("in it", p.covers(500, 7), 1);
        D.due("out of it", p.covers(500, 8), 0);
    }

    private static void faultAt(String text, int place) {
        D.due("'" + text + "'", Due.tell(new PointLayers(), text), -10 - place);
    }

    private static void faults() {
        D.promise("26 faults");
        faultAt("", 0);
        faultAt("   ", 3);
        faultAt(";", 0);
        faultAt("x", 0);
        faultAt(ONE, 9);
        faultAt(ONE + "  ", 11);
        faultAt(ONE + ";;", 10);
        faultAt(ONE + "; x", 11);
        faultAt(ONE + ONE, 9);
        faultAt(ONE + "+;", 10);
        faultAt(ONE + "+", 10);
        faultAt(ONE + ")", 9);
        faultAt("(" + ONE + ";", 10);
        faultAt("()", 1);
        faultAt("!", 1);
        faultAt("!;", 1);
        faultAt("+" + ONE + ";", 0);
        faultAt(ONE + "!" + ONE + ";", 9);
        faultAt(ONE + "&&" + ONE + ";", 10);
        faultAt(ONE + "+-" + ONE + ";", 10);
        faultAt("[,", 1);
        faultAt("[]", 1);
        faultAt("[0 1", 3);
        faultAt("[- 1", 2);
        faultAt("[--1", 2);
        faultAt("[+1", 1);
        faultAt("[-", 2);
        faultAt("[-,", 2);
        faultAt("[0,1,0,1,", 8);
        faultAt("[0,1,0]", 6);
        faultAt("[0,1,0,1;", 8);
        faultAt("[12", 3);
        faultAt("[501,", 1);
        faultAt("[501", 1);
        faultAt("[ -501,", 2);
        faultAt("[1234,", 1);
        faultAt("[0001,", 1);
        faultAt("[-0001,", 1);
        faultAt("[99999999999999999999999999,", 1);
        faultAt("[0, 600,", 4);
        faultAt("[5,4,0,0];", 3);
        faultAt("[5, -6,0,0];", 4);
        faultAt("[0,0,5, 4];", 8);
        faultAt("[0,0,-5,-6];", 8);
        faultAt("[5,4x", 3);
        faultAt("[501x", 1);
        faultAt("[50x", 3);
        faultAt("[0,0,0,0" + (char) 0, 8);
        faultAt("[0,0\t,0,0];", 4);
        D.due("b just a", Due.tell(new PointLayers(), "[5,5,-7,-7];"), 1);
    }

    private static void depth() {
        D.promise("26 depth");
        D.due("12 (", Due.tell(new PointLayers(), "(".repeat(12) + ONE + ")".repeat(12) + ";"), 1);
        faultAt("(".repeat(13) + ONE + ")".repeat(13) + ";", 12);
        D.due("12 !", Due.tell(new PointLayers(), "!".repeat(12) + ONE + ";"), 1);
        faultAt("!".repeat(13) + ONE + ";", 12);
        D.due("12 mixed", Due.tell(new PointLayers(), "!(".repeat(6) + ONE + ")".repeat(6) + ";"), 1);
        faultAt("!(".repeat(6) + "!" + ONE, 12);
        faultAt("!(".repeat(6) + "(" + ONE, 12);
        faultAt("(".repeat(120), 12);
        D.due("beside one another is not within",
            Due.tell(new PointLayers(), "!".repeat(12) + ONE + "+" + "!".repeat(12) + ONE + ";"), 2);
    }

    /** Four places tell apart what is in neither, the left, the right, both of two rectangles. */
    private static void means(String text, int neither, int left, int right, int both) {
        PointLayers p = new PointLayers();
        Due.tell(p, text.replace("L", "[0,9,-9,9]").replace("R", "[5,19,-9,9]") + ";");
        D.due(text + " neither", p.covers(50, 0), neither);
        D.due(text + " left", p.covers(2, 0), left);
        D.due(text + " right", p.covers(15, 0), right);
        D.due(text + " both", p.covers(7, 0), both);
    }

    private static void meanings() {
        D.promise("26 what a text tells");
        means("L", 0, 1, 0, 1);
        means("L+R", 0, 1, 1, 1);
        means("L-R", 0, 1, 0, 0);
        means("R-L", 0, 0, 1, 0);
        means("L&R", 0, 0, 0, 1);
        means("!L", 1, 0, 1, 0);
        means("!!L", 0, 1, 0, 1);
        means("!L&R", 0, 0, 1, 0);
        means("!(L&R)", 1, 1, 1, 0);
        means("L+R-L", 0, 0, 1, 0);
        means("L-R+R", 0, 1, 1, 1);
        means("L-(R+L)", 0, 0, 0, 0);
        means("L-(R-L)", 0, 1, 0, 1);
        means("L-R-L", 0, 0, 0, 0);
        means("R+L&R", 0, 0, 1, 1);
        means("(R+L)&L", 0, 1, 0, 1);
        means("L&R-L", 0, 0, 0, 0);
        means("R-L&R", 0, 0, 1, 0);
        means("!(L+R)+L&!R", 1, 1, 0, 0);
    }

    private static void inside() {
        D.promise("27 inside");
        PointLayers p = new PointLayers();
        p.put(1, 1, 10);
        p.put(2, 2, 20);
        p.put(9, 9, 40);
        D.due("nothing at first", p.inside(), 0);
        Due.tell(p, "[1,9,1,9]-[2,2,2,2];");
        D.due("by ONE", p.inside(), 2);
        p.counter(1);
        D.due("by HEAVY", p.inside(), 50);
        p.take(0);
        D.due("one gone", p.inside(), 40);
        D.due("no searches", p.layers(3), 0);
        Due.tell(p, "![2,2,2,2];");
        D.due("what is not in it", p.inside(), 40);
    }

    private static void covers() {
        D.promise("28 covers");
        PointLayers p = new PointLayers();
        Due.tell(p, "[-3,4,-5,6];");
        D.due("corner", p.covers(-3, -5), 1);
        D.due("corner", p.covers(4, 6), 1);
        D.due("left", p.covers(-4, 0), 0);
        D.due("right", p.covers(5, 0), 0);
        D.due("under", p.covers(0, -6), 0);
        D.due("over", p.covers(0, 7), 0);
        D.due("BAD", p.covers(501, 0), Due.BAD);
        D.due("BAD", p.covers(0, -501), Due.BAD);
    }

    private static void found() {
        D.promise("29 found");
        PointLayers p = new PointLayers();
        p.put(5, 5, 1);
        p.put(5, 4, 1);
        p.put(0, 9, 1);
        p.put(7, 7, 1);
        p.put(5, 4, 1);
        D.due("nothing at first", p.found(0), Due.NONE);
        Due.tell(p, "[0,7,0,9]-[7,7,7,7];");
        int[] due = {2, 1, 4, 0};
        for (int k = 0; k < 4; k++) {
            D.due("k " + k, p.found(k), due[k]);
        }
        D.due("no more", p.found(4), Due.NONE);
        D.due("far", p.found(Integer.MAX_VALUE), Due.NONE);
        D.due("BAD", p.found(-1), Due.BAD);
    }

    private static void mow() {
        D.promise("30 mow");
        PointLayers p = new PointLayers();
        D.due("nothing", p.mow(), 0);
        p.put(5, 5, 1);
        p.put(3, 9, 1);
        p.put(3, 8, 1);
        for (int i = 0; i < 4; i++) {
            p.put(100, i, 1);
        }
        D.due("no area", p.mow(), 0);
        D.due("no U", p.size(5), 7);
        Due.tell(p, "![100,100,0,500];");
        D.due("three", p.mow(), 3);
        D.due("by place", p.inLayer(2, 1, 3, 3, 8, 9), 2);
        D.due("by place", p.inLayer(1, 1, 5, 5, 5, 5), 1);
        D.due("again none", p.mow(), 0);
        D.due("one U", p.undo(), 7);
        D.due("all back", p.size(0), 7);
        Due.tell(p, "![0,0,0,0];");
        D.due("all, laid anew in the midst", p.mow(), 7);
        D.due("none left", p.size(0), 0);
        D.due("thrice", p.layers(4), 3);
    }
}
