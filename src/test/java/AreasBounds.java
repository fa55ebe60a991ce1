/** Boundary cases of THE TEXT, AREAS and the FAULT, and of promises 24 to 30. */
final class AreasBounds {
    private static final int LOW = Case.LOW, HIGH = Case.HIGH;
    private static final String UNIT = Case.UNIT;

    private final Case c;

    AreasBounds(Case c) {
        this.c = c;
    }

    void go() {
        text();
        sums();
        products();
        spots();
        numbers();
        blanks();
        faults();
        faultsOfNumbers();
        endsTooEarly();
        depth();
        type();
        clear();
        area();
        inside();
        covers();
        found();
        mow();
    }

    /** So many rectangles are told by the text. */
    private void tells(String text, int rectangles) {
        PointLayers p = new PointLayers();
        c.due("'" + text + "'", Due.tell(p, text), rectangles);
        c.due("'" + text + "', size 7", p.size(7), rectangles);
    }

    /** The text has its FAULT at the place; THE AREA and all else stay, nothing is refused. */
    private void faultAt(String text, int place) {
        Case.Made made = p -> {
            Case.putAt(0, 0, 9, 9).on(p);
            Due.tell(p, "[0,7,-50,50];");
            p.clear();
            Due.write(p, text);
        };
        c.changesNothing("'" + text + "'", -10 - place, made, p -> p.area());
    }

    /** Four places tell apart what is in neither, the left, the right, both of two rectangles. */
    private void means(String text, int neither, int left, int right, int both) {
        PointLayers p = new PointLayers();
        Due.tell(p, text.replace("L", "[0,9,-9,9]").replace("R", "[5,19,-9,9]") + ";");
        c.due(text + " neither", p.covers(50, 0), neither);
        c.due(text + " left", p.covers(2, 0), left);
        c.due(text + " right", p.covers(15, 0), right);
        c.due(text + " both", p.covers(7, 0), both);
    }

    private void text() {
        c.terms("2 THE TEXT (120 bytes at most)");
        String long120 = " ".repeat(110) + UNIT + ";";
        tells(long120, 1);
        PointLayers p = new PointLayers();
        Due.write(p, long120);
        c.due("120 bytes", p.size(6), 120);
        c.due("no 121st", p.type(' '), Due.FULL);
        c.due("120 bytes", p.size(6), 120);
        PointLayers q = new PointLayers();
        Due.write(q, " " + long120);
        c.due("the 121st byte did not come", q.area(), -10 - 120);

        c.terms("tells AN AREA, ended by ; :");
        tells(UNIT + ";", 1);
        faultAt(UNIT, 9);
        faultAt(UNIT + ";;", 10);
        faultAt(UNIT + ";" + UNIT + ";", 10);
        faultAt(UNIT + "; x", 11);
        faultAt(";", 0);
        faultAt("(" + UNIT + ";)", 10);
        tells(UNIT + ";   ", 1);
    }

    private void sums() {
        c.terms("an AREA is PARTS with + (what is in either)");
        means("L", 0, 1, 0, 1);
        means("L+R", 0, 1, 1, 1);
        means("L+L", 0, 1, 0, 1);
        faultAt(UNIT + UNIT + ";", 9);
        faultAt("+" + UNIT + ";", 0);
        faultAt(UNIT + "+;", 10);
        faultAt(UNIT + "++" + UNIT + ";", 10);

        c.terms("or - (what is in the left, not in the right) between,");
        means("L-R", 0, 1, 0, 0);
        means("R-L", 0, 0, 1, 0);
        means("L-L", 0, 0, 0, 0);
        faultAt("-" + UNIT + ";", 0);
        faultAt(UNIT + "-;", 10);
        faultAt(UNIT + "+-" + UNIT + ";", 10);
        tells(UNIT + "-[-1,-1,-1,-1];", 2);

        c.terms("taken from the left on;");
        means("L-R+R", 0, 1, 1, 1);
        means("L+R-L", 0, 0, 1, 0);
        means("L-R-L", 0, 0, 0, 0);
        means("L-(R-L)", 0, 1, 0, 1);
        means("L-(L-R)", 0, 0, 0, 1);
        means("L-L+R", 0, 0, 1, 1);
        means("L-(L+R)", 0, 0, 0, 0);
    }

    private void products() {
        c.terms("a PART is SPOTS with & (what is in both) between, likewise;");
        means("L&R", 0, 0, 0, 1);
        means("L&!R", 0, 1, 0, 0);
        means("L&L&R", 0, 0, 0, 1);
        means("L&R&!R", 0, 0, 0, 0);
        means("L+R&L", 0, 1, 0, 1);
        means("R-L&R", 0, 0, 1, 0);
        means("(R+L)&L", 0, 1, 0, 1);
        means("L&R+R", 0, 0, 1, 1);
        means("L&R-L", 0, 0, 0, 0);
        means("!L&!R", 1, 0, 0, 0);
        faultAt("&" + UNIT + ";", 0);
        faultAt(UNIT + "&;", 10);
        faultAt(UNIT + "&&" + UNIT + ";", 10);
        faultAt(UNIT + "&+" + UNIT + ";", 10);
        StringBuilder twelve = new StringBuilder(UNIT);
        for (int i = 1; i < 12; i++) {
            twelve.append(i % 3 == 0 ? '+' : i % 3 == 1 ? '&' : '-').append(UNIT);
        }
        tells(twelve.append(';').toString(), 12);
    }

    private void spots() {
        c.terms("a SPOT is a RECTANGLE [ a , b , c , d ]");
        PointLayers p = new PointLayers();
        Due.tell(p, "[-1,2,-3,4];");
        c.due("a", p.covers(-1, 0), 1);
        c.due("less than a", p.covers(-2, 0), 0);
        c.due("b", p.covers(2, 0), 1);
        c.due("more than b", p.covers(3, 0), 0);
        c.due("c", p.covers(0, -3), 1);
        c.due("less than c", p.covers(0, -4), 0);
        c.due("d", p.covers(0, 4), 1);
        c.due("more than d", p.covers(0, 5), 0);
        faultAt("[];", 1);
        faultAt("[1];", 2);
        faultAt("[1,2];", 4);
        faultAt("[1,2,3];", 6);
        faultAt("[1,2,3,4,5];", 8);
        faultAt("[1,2,3,4,];", 8);
        faultAt("[1,,3,4];", 3);
        faultAt("[,2,3,4];", 1);
        faultAt("[1;2,3,4];", 2);
        faultAt("[(1),2,3,4];", 1);
        faultAt("1,2,3,4;", 0);
        faultAt("[1,2,3,4;", 8);
        faultAt("[1,2,3,4);", 8);
        faultAt("]", 0);

        c.terms(", or ( AREA )");
        means("(L)", 0, 1, 0, 1);
        means("((L+R))", 0, 1, 1, 1);
        faultAt("()", 1);
        faultAt("(" + UNIT + ";", 10);
        faultAt(UNIT + ");", 9);
        faultAt(")", 0);
        faultAt("(" + UNIT + "));", 11);
        faultAt("(" + UNIT + "]", 10);
        faultAt("(" + UNIT + ")(" + UNIT + ");", 11);

        c.terms(", or ! SPOT (what is not in it).");
        means("!L", 1, 0, 1, 0);
        means("!!L", 0, 1, 0, 1);
        means("!(L+R)", 1, 0, 0, 0);
        means("!L+R", 1, 0, 1, 1);
        means("!L&R", 0, 0, 1, 0);
        means("!(L&R)", 1, 1, 1, 0);
        means("!L-R", 1, 0, 0, 0);
        faultAt("!;", 1);
        faultAt("!+" + UNIT + ";", 1);
        faultAt(UNIT + "!" + UNIT + ";", 9);
        faultAt(UNIT + "!;", 9);
        faultAt("!)", 1);
    }

    private void numbers() {
        c.terms("A NUMBER is perhaps - and 1 to 3 figures.");
        tells("[0,1,0,1];", 1);
        tells("[10,10,10,10];", 1);
        tells("[500,500,500,500];", 1);
        tells("[-500,-500,-500,-500];", 1);
        tells("[-0,0,-0,0];", 1);
        tells("[0,-0,0,-00];", 1);
        PointLayers p = new PointLayers();
        c.due("noughts ahead", Due.tell(p, "[-007,007,-000,08];"), 1);
        c.due("in it", p.covers(-7, 8), 1);
        c.due("left of it", p.covers(-8, 8), 0);
        c.due("over it", p.covers(-7, 9), 0);
        faultAt("[-,1,0,1];", 2);
        faultAt("[--1,1,0,1];", 2);
        faultAt("[+1,1,0,1];", 1);
        faultAt("[1-,1,0,1];", 2);
        faultAt("[1.0,1,0,1];", 2);
        faultAt("[x,1,0,1];", 1);
        faultAt("[1x,1,0,1];", 2);
        // Just ahead of and just behind the figures among the bytes.
        faultAt("[/,1,0,1];", 1);
        faultAt("[:,1,0,1];", 1);
        faultAt("[5/,9,0,1];", 2);
        faultAt("[5:,9,0,1];", 2);
        tells("[0,9,0,9];", 1);
    }

    private void blanks() {
        c.terms("Blanks (32) may stand anywhere but within NUMBERS.");
        tells("  [  0  ,  1  ,  -5  ,  1  ]  +  (  !  [ 0 , 1 , 0 , 1 ]  &  [0,1,0,1]  )  -  [1,1,1,1]  ;  ", 4);
        faultAt("[- 1,1,0,1];", 2);
        faultAt("[1 2,20,0,1];", 3);
        faultAt("[0,5 5,0,1];", 5);
        faultAt("[-5 -5,5,0,1];", 4);
        for (int other : new int[] {0, 9, 10, 13, 31, 33, 95, 127}) {
            if (other != '!') {
                faultAt((char) other + UNIT + ";", 0);
            }
            faultAt("[" + (char) other + "0,1,0,1];", 1);
            faultAt(UNIT + (char) other + ";", 9);
            faultAt(UNIT + ";" + (char) other, 10);
        }
    }

    private void faults() {
        c.terms("FAULT: the place of the first byte that can not stand there");
        faultAt("x", 0);
        faultAt("   x", 3);
        faultAt("[0,1,0,1}", 8);
        faultAt("{0,1,0,1]", 0);
        faultAt(UNIT + "x" + UNIT, 9);
        faultAt(UNIT + "+x" + "y", 10);
        faultAt(UNIT + "," + UNIT, 9);
        faultAt("[0,1,0,1]+[0,1,0,x];", 17);
        faultAt(" ".repeat(119) + "x", 119);
        faultAt(" ".repeat(119) + ";", 119);
        faultAt("xx", 0);
    }

    private void faultsOfNumbers() {
        c.terms("(of a NUMBER not -500 .. 500, of four figures or more, of b below a, d below c: its first byte, the - too)");
        tells("[-500,500,-500,500];", 1);
        faultAt("[-501,500,-500,500];", 1);
        faultAt("[-500,501,-500,500];", 6);
        faultAt("[-500,500,-501,500];", 10);
        faultAt("[-500,500,-500,501];", 15);
        faultAt("[501,500,0,0];", 1);
        faultAt("[0,-501,0,0];", 3);
        faultAt("[ 999,0,0,0];", 2);
        faultAt("[ -999,0,0,0];", 2);
        // Four figures, though as a number it were in the field.
        faultAt("[0000,1,0,1];", 1);
        faultAt("[-0000,1,0,1];", 1);
        faultAt("[0001,1,0,1];", 1);
        faultAt("[0,0500,0,1];", 3);
        faultAt("[0,1,0, -0001];", 8);
        faultAt("[1234,1,0,1];", 1);
        faultAt("[00000000000000000000000000001,1,0,1];", 1);
        faultAt("[4294967296,1,0,1];", 1);
        faultAt("[0,1,0," + "9".repeat(113), 7);
        tells("[5,5,-5,-5];", 1);
        faultAt("[5,4,0,0];", 3);
        faultAt("[5, -5,0,0];", 4);
        faultAt("[-5,-6,0,0];", 4);
        faultAt("[0,0,5,4];", 7);
        faultAt("[0,0,-5, -6];", 9);
        tells("[0,0,-6,-5];", 1);
        // b and d are not measured by one another, nor c by b.
        tells("[5,9,-5,-4];", 1);
        // The first of two faults.
        faultAt("[501,502,0,0];", 1);
        faultAt("[5,4x", 3);
        faultAt("[5,x4", 3);
        faultAt("[501x", 1);
        faultAt("[50x", 3);
        faultAt("[5,4,3,2];", 3);
    }

    private void endsTooEarly() {
        c.terms("; the TEXT's length, if it ends too early (an empty one, too).");
        String whole = "![-1,12,0,123]&(" + UNIT + "-[0,1,0,1]);";
        tells(whole, 3);
        for (int length = 0; length < whole.length(); length++) {
            faultAt(whole.substring(0, length), length);
        }
        faultAt("   ", 3);
        faultAt(UNIT + "  ", 11);
        faultAt("[ 0 ", 4);
        faultAt("(" + UNIT + ")", 11);
        faultAt(" ".repeat(120), 120);
        faultAt(" ".repeat(111) + UNIT, 120);
    }

    private void depth() {
        c.terms("( and ! stand within one another 12 deep at most: a 13th can not stand there.");
        tells("(".repeat(12) + UNIT + ")".repeat(12) + ";", 1);
        faultAt("(".repeat(13) + UNIT + ")".repeat(13) + ";", 12);
        tells("!".repeat(12) + UNIT + ";", 1);
        faultAt("!".repeat(13) + UNIT + ";", 12);
        tells("!(".repeat(6) + UNIT + ")".repeat(6) + ";", 1);
        faultAt("!(".repeat(6) + "!" + UNIT + ")".repeat(6) + ";", 12);
        faultAt("!(".repeat(6) + "(" + UNIT + ")".repeat(7) + ";", 12);
        tells("(!".repeat(6) + UNIT + ")".repeat(6) + ";", 1);
        faultAt("(!".repeat(6) + "(" + UNIT + "))".repeat(6) + ";", 12);
        faultAt(" (".repeat(13) + UNIT, 25);
        faultAt("(".repeat(120), 12);
        faultAt("!".repeat(120), 12);
        tells("!".repeat(12) + UNIT + "+" + "!".repeat(12) + UNIT + ";", 2);
        tells("(".repeat(12) + UNIT + ")".repeat(12) + "&" + "(".repeat(12) + UNIT + ")".repeat(12) + ";", 2);
        faultAt("(".repeat(11) + UNIT + "+((" + UNIT, 22);
        tells("(".repeat(11) + "!" + UNIT + "+!" + UNIT + "&(" + UNIT + ")" + ")".repeat(11) + ";", 3);
        PointLayers odd = new PointLayers();
        Due.tell(odd, "!".repeat(11) + UNIT + ";");
        c.due("! eleven times", odd.covers(0, 0), 0);
        c.due("! eleven times", odd.covers(9, 9), 1);
        Due.tell(odd, "!".repeat(12) + UNIT + ";");
        c.due("! twelve times", odd.covers(0, 0), 1);

        c.terms("THE AREA has nothing in it at first.");
        PointLayers p = Case.at(0, 0, HIGH, HIGH);
        c.due("a place", p.covers(0, 0), 0);
        c.due("a corner", p.covers(LOW, LOW), 0);
        c.due("no point", p.found(0), Due.NONE);
        c.due("inside", p.inside(), 0);
        c.due("mow", p.mow(), 0);
        c.due("no rectangles", p.size(7), 0);
    }

    private void type() {
        c.says(24, "A byte (0 .. 127) comes behind THE TEXT: how many it has.");
        PointLayers p = new PointLayers();
        c.due("0", p.type(0), 1);
        c.due("127", p.type(127), 2);
        c.due("size 6", p.size(6), 2);
        PointLayers q = new PointLayers();
        Due.write(q, UNIT + ";");
        c.due("bytes come behind one another", q.area(), 1);
        c.due("THE AREA is not told by typing", q.type('x'), 11);
        c.due("size 7", q.size(7), 1);
        c.due("no U", q.size(5), 0);

        c.says(24, "BAD;");
        c.limits("type", 0, 127, Case.RICH, (r, v) -> r.type(v));
        Case.Made full = Case.and(Case.RICH, r -> Due.write(r, " ".repeat(120)));
        c.refused("BAD ahead of FULL", Due.BAD, full, r -> r.type(128));
        c.refused("BAD ahead of FULL", Due.BAD, full, r -> r.type(-1));

        c.says(24, "FULL: 120.");
        c.refused("a 121st", Due.FULL, full, r -> r.type(';'));
        Case.Made one = r -> Due.write(r, " ".repeat(119));
        c.due("the 120th", Case.after(one).type(';'), 120);
        PointLayers cleared = Case.after(full);
        cleared.clear();
        c.due("cleared, there is room", cleared.type(';'), 1);
    }

    private void clear() {
        c.says(25, "THE TEXT is empty: how many it had.");
        PointLayers p = new PointLayers();
        c.due("nothing", p.clear(), 0);
        p.type('x');
        c.due("one", p.clear(), 1);
        c.due("it is empty", p.size(6), 0);
        Due.write(p, " ".repeat(130));
        c.due("120", p.clear(), 120);
        c.due("empty again", p.clear(), 0);
        c.due("an empty text's fault", p.area(), -10);
        Due.tell(p, UNIT + ";");
        c.due("cleared", p.clear(), 10);
        c.due("THE AREA stays", p.covers(1, 1), 1);
        c.due("size 7", p.size(7), 1);
        c.changesNothing("an empty one", 0, Case.and(Case.RICH, q -> q.clear()), q -> q.clear());
    }

    private void area() {
        c.says(26, "THE AREA is what THE TEXT tells: how many RECTANGLES are told in it.");
        PointLayers p = new PointLayers();
        c.due("one", Due.tell(p, UNIT + ";"), 1);
        c.due("in it", p.covers(0, 0), 1);
        c.due("two", Due.tell(p, "[5,5,5,5]+[7,7,7,7];"), 2);
        c.due("what was is no more", p.covers(0, 0), 0);
        c.due("in it", p.covers(7, 7), 1);
        c.due("THE TEXT stays", p.size(6), 20);
        c.due("again", p.area(), 2);
        StringBuilder twelve = new StringBuilder("[1,1,1,1]");
        for (int i = 2; i <= 12; i++) {
            twelve.append('+').append("[" + i % 10 + "," + i % 10 + ",1,1]");
        }
        c.due("twelve, the most that 120 bytes hold", Due.tell(p, twelve.append(';').toString()), 12);
        c.due("the last but two", p.covers(9, 1), 1);
        c.due("one again", Due.tell(p, "[3,3,3,3];"), 1);
        c.due("the others are gone", p.covers(9, 1), 0);
        c.due("no U", p.size(5), 0);
        Due.tell(p, "[1,9,1,9]-[2,2,2,2]&[3,4,2,2];");
        for (int i = 0; i < 150; i++) {
            c.due("again and again", p.area(), 3);
        }
        c.due("another", Due.tell(p, "![0,0,0,0];"), 1);
        c.due("all of it", p.covers(2, 2), 1);
        c.due("all of it", p.covers(0, 0), 0);

        c.says(26, "-10 less the FAULT: THE AREA stays.");
        faultAt("", 0);
        faultAt("[", 1);
        faultAt(UNIT + "+[0,0,0,0]+x", 20);
        faultAt(" ".repeat(120), 120);
        PointLayers q = new PointLayers();
        Due.tell(q, "[5,5,5,5]+[7,7,7,7];");
        c.due("a fault behind other rectangles", Due.tell(q, UNIT + ";x"), -20);
        c.due("THE AREA stays", q.covers(7, 7), 1);
        c.due("THE AREA stays", q.covers(0, 0), 0);
        c.due("its rectangles", q.size(7), 2);
        c.due("it is not refused", q.status(0) + q.status(1) + q.status(2), 0);
    }

    private static Case.Made with(String area, int... places) {
        return Case.and(Case.putAt(places), p -> Due.tell(p, area));
    }

    private void inside() {
        c.says(27, "All that POINTS of THE AREA count together.");
        c.changesNothing("nothing in it", 0, Case.putAt(0, 0, 1, 1), p -> p.inside());
        c.changesNothing("no points", 0, with("![0,0,0,0];"), p -> p.inside());
        Case.Made made = with("[0,3,-9,9]-[2,2,2,2];", 0, 0, 1, -2, 3, 3, 4, 4, 2, 2);
        int[] due = {3, 6, 2, 12, 4, 7};
        for (int kind = 0; kind < 6; kind++) {
            int told = kind;
            c.changesNothing("by kind " + kind, due[kind], Case.and(made, p -> p.counter(told)), p -> p.inside());
        }
        c.changesNothing("those gone do not count", 2, Case.and(made, p -> p.take(2)), p -> p.inside());
        c.changesNothing("60", 60, Case.and(Case.SIXTY, p -> {
            p.counter(0);
            Due.tell(p, "[-500,500,-500,500];");
        }), p -> p.inside());
    }

    private void covers() {
        c.says(28, "Whether a place is in THE AREA: 1, 0.");
        Case.Made made = with("[-3,4,-5,6];");
        int[][] in = {{-3, -5}, {4, 6}, {-3, 6}, {4, -5}};
        int[][] out = {{-4, 0}, {5, 0}, {0, -6}, {0, 7}, {LOW, LOW}, {HIGH, HIGH}};
        for (int[] place : in) {
            c.changesNothing("in it", 1, made, p -> p.covers(place[0], place[1]));
        }
        for (int[] place : out) {
            c.changesNothing("out of it", 0, made, p -> p.covers(place[0], place[1]));
        }
        c.changesNothing("the field's corner", 1, with("!" + UNIT + ";"), p -> p.covers(HIGH, LOW));
        c.changesNothing("a point is nothing to it", 0, Case.putAt(0, 0), p -> p.covers(0, 0));

        c.says(28, "BAD.");
        c.limits("x", LOW, HIGH, Case.RICH, (p, v) -> p.covers(v, 0));
        c.limits("y", LOW, HIGH, Case.RICH, (p, v) -> p.covers(0, v));
    }

    private void found() {
        c.says(29, "The k-th POINT of THE AREA BY PLACE; NONE.");
        Case.Made made = with("[0,7,0,9]-[7,7,7,7];", 5, 5, 5, 4, 0, 9, 7, 7, 5, 4, 8, 0);
        int[] due = {2, 1, 4, 0, Due.NONE, Due.NONE};
        for (int k = 0; k < due.length; k++) {
            int asked = k;
            c.changesNothing("k " + k, due[k], made, p -> p.found(asked));
        }
        c.changesNothing("far", Due.NONE, made, p -> p.found(Integer.MAX_VALUE));
        c.changesNothing("nothing in it", Due.NONE, Case.putAt(1, 1), p -> p.found(0));
        c.changesNothing("no points", Due.NONE, with("!" + UNIT + ";"), p -> p.found(0));
        c.changesNothing("those gone are not of it", 1, Case.and(made, p -> p.take(2)), p -> p.found(0));

        c.says(29, "BAD: k below 0.");
        c.refused("-1", Due.BAD, Case.RICH, p -> p.found(-1));
        c.refused("far", Due.BAD, Case.RICH, p -> p.found(Integer.MIN_VALUE));
        c.refused("-1 of nothing", Due.BAD, Case.NEW, p -> p.found(-1));
    }

    private void mow() {
        c.says(30, "All POINTS of THE AREA are taken away, BY PLACE: how many.");
        PointLayers p = Case.after(with("[-5,5,0,9]-[0,0,0,9];", 5, 0, -5, 9, -5, 3, 6, 0, 0, 0, 5, -1, 5, 10, 100, 100));
        c.due("three", p.mow(), 3);
        c.due("outside stays", p.size(0), 5);
        c.due("the first two by place", p.inLayer(2, 1, -5, -5, 3, 9), 2);
        c.due("the last", p.inLayer(1, 1, 5, 5, 0, 0), 1);
        c.due("none is left there", p.mow(), 0);
        PointLayers all = Case.after(Case.and(Case.SIXTY, q -> Due.tell(q, "[-500,500,-500,500];")));
        c.due("all 60", all.mow(), 60);
        c.due("none is left", all.size(0), 0);
        c.due("THE AREA stays", all.covers(LOW, HIGH), 1);

        c.says(30, "U (one for all, if any are).");
        c.isUndone("one", 1, with("[3,3,3,3];", 3, 3, 4, 4), q -> q.mow());
        c.isUndone("all", 19, Case.and(Case.RICH, q -> Due.tell(q, "[-500,500,-500,500];")), q -> q.mow());
        c.changesNothing("none are", 0, with("[5,9,5,9];", 3, 3, 4, 4), q -> q.mow());
        c.changesNothing("nothing in it", 0, Case.putAt(3, 3, 4, 4), q -> q.mow());
        c.changesNothing("no points", 0, with("[5,9,5,9];"), q -> q.mow());
    }
}
