/** What is asked of the rows as they are: promises 15 to 21 and 27. */
public final class AnswersTest {
    private static final String TREFOIL = "braid 2 1 1 1;";
    private static final String HOPF = "braid 2 1 1;";
    private static final String FIGURE_EIGHT = "braid 3 1 -2 1 -2;";
    private static final String BORROMEAN = "braid 3 1 -2 1 -2 1 -2;";
    private static final String TORUS_34 = "braid 3 1 2 1 2 1 2 1 2;";
    private static final int NONE = KnotRows.NONE;
    private static final int OTHERS = -100000;
    private static final int[] FAR = {-2, 100, Integer.MIN_VALUE, Integer.MAX_VALUE};

    private final Check check = new Check("answers");

    public static void main(String[] args) {
        AnswersTest test = new AnswersTest();
        test.rings();
        test.crossings();
        test.arcsOver();
        test.faces();
        test.facesOfTwoRings();
        test.loops();
        test.brackets();
        test.knotted();
        test.movesKeepKnotted();
        test.windings();
        test.colourings();
        test.determinants();
        test.counts();
        test.arcs();
        test.turns();
        test.spans();
        test.check.end();
    }

    private void rings() {
        KnotRows x = Check.of("ring over 4+under 6+;ring;ring under 4+over 6+;");
        long[] got = {x.ring(0, NONE), x.ring(0, 0), x.ring(0, 1), x.ring(0, 2), x.ring(1, NONE), x.ring(1, 0),
            x.ring(2, NONE), x.ring(2, 0), x.ring(2, 1), x.ring(2, 2), x.ring(3, NONE), x.ring(3, 0), x.ring(-1, NONE), x.ring(-1, 0)};
        check.row("ring", got, 2, 3, 5, -1, 0, -1, 2, 1, 7, -1, -1, -1, -1, -1);
        x.mirror();
        check.row("ring mirrored", new long[] {x.ring(0, 0), x.ring(0, 1), x.ring(2, 0), x.ring(2, 1)}, 0, 6, 2, 4);
        for (int far : FAR) {
            check.due("ring(" + far + ", 0)", x.ring(far, 0), NONE);
            check.due("ring(0, " + far + ")", x.ring(0, far), NONE);
        }
    }

    private long[] crossing(KnotRows x, int crossing) {
        long[] got = new long[8];
        for (int what = 0; what < 8; what++) {
            got[what] = x.crossing(crossing, what);
        }
        return got;
    }

    private void crossings() {
        KnotRows x = Check.of(HOPF);
        check.row("crossing 0", crossing(x, 0), 1, 3, 0, 2, 1, 0, 1, 0);
        check.row("crossing 1", crossing(x, 1), 1, 0, 3, 1, 2, 1, 0, 1);
        x.round(1);
        check.row("crossing 0 turned", crossing(x, 0), -1, 3, 1, 2, 0, 0, 1, 0);
        x = Check.of(TREFOIL);
        x.mirror();
        check.row("crossing 0 of a mirrored trefoil", crossing(x, 0), -1, 5, 2, 0, 3, 0, 0, 1);
        for (int far : FAR) {
            check.due("crossing(" + far + ", 0)", x.crossing(far, 0), OTHERS);
            check.due("crossing(0, " + far + ")", x.crossing(0, far), OTHERS);
        }
        check.due("crossing(-1, 0)", x.crossing(-1, 0), OTHERS);
        check.due("crossing(0, -1)", x.crossing(0, -1), OTHERS);
        check.due("crossing(0, 8)", x.crossing(0, 8), OTHERS);
        check.due("crossing(3, 0)", x.crossing(3, 0), OTHERS);
    }

    /** An ARC has the number of the EDGE with which it begins, not of its least one. */
    private void arcsOver() {
        KnotRows x = Check.of(TREFOIL);
        check.row("arcs over", new long[] {x.crossing(0, 7), x.crossing(1, 7), x.crossing(2, 7)}, 2, 1, 0);
        x = Check.of("ring over 0+over 1-;ring;ring under 0+under 1-;");
        check.row("arcs of a ring above", new long[] {x.crossing(0, 7), x.crossing(1, 7)}, 2, 2);
        check.due("arcs", x.count(6), 4);
        x = Check.of("ring;ring over 0+over 1-;ring under 0+under 1-;");
        check.row("arcs behind a loose ring", new long[] {x.crossing(0, 7), x.crossing(1, 7)}, 3, 3);
    }

    private long[] face(KnotRows x, int face) {
        long[] got = new long[x.face(face, 0) + 2];
        for (int what = 0; what < got.length; what++) {
            got[what] = x.face(face, what);
        }
        check.due("behind face " + face, x.face(face, got.length), NONE);
        return got;
    }

    private void faces() {
        KnotRows x = Check.of("braid 2 1;");
        check.due("faces", x.face(NONE, 0), 3);
        check.row("face 0", face(x, 0), 1, 1, 0);
        check.row("face 1", face(x, 1), 2, 0, 1, 2);
        check.row("face 2", face(x, 2), 1, 1, 3);
        for (int far : FAR) {
            check.due("face(" + far + ", 0)", x.face(far, 0), NONE);
            check.due("face(0, " + far + ")", x.face(0, far), NONE);
            check.due("face(NONE, " + far + ")", x.face(NONE, far), 3);
        }
        check.due("face(3, 0)", x.face(3, 0), NONE);
        check.due("face(0, -1)", x.face(0, -1), NONE);
        x = Check.of(TREFOIL);
        check.row("face 0", face(x, 0), 3, 0, 0, 8, 4);
        check.row("face 1", face(x, 1), 2, 0, 1, 6);
        check.row("face 2", face(x, 2), 2, 0, 2, 9);
        check.row("face 3", face(x, 3), 3, 0, 3, 7, 11);
        check.row("face 4", face(x, 4), 2, 0, 5, 10);
        x = Check.of("ring;");
        check.due("faces of a loose ring", x.face(NONE, 0), 0);
        check.due("face(0, 0) of a loose ring", x.face(0, 0), NONE);
    }

    private void facesOfTwoRings() {
        KnotRows x = Check.of("ring over 0+over 1-;ring under 0+under 1-;");
        check.row("face 0", face(x, 0), 2, 2, 0, 6);
        check.row("face 1", face(x, 1), 2, 2, 1, 4);
        check.row("face 2", face(x, 2), 2, 2, 2, 7);
        check.row("face 3", face(x, 3), 2, 2, 3, 5);
        x = Check.of("braid 3 1 2 1;");
        long[] kinds = new long[x.face(NONE, 0)];
        for (int face = 0; face < kinds.length; face++) {
            kinds[face] = x.face(face, 1);
        }
        check.row("kinds", kinds, 0, 3, 1, 0, 0);
    }

    private void loops() {
        KnotRows x = Check.of(HOPF);
        check.row("loops", new long[] {x.loops(0), x.loops(1), x.loops(2), x.loops(3), x.loops(4), x.loops(-1)}, 2, 1, 1, 2, -1, -1);
        x = Check.of("ring;ring over 0+under 0+;ring;");
        check.row("loops with loose ones", new long[] {x.loops(0), x.loops(1), x.loops(2)}, 4, 3, -1);
        x = Check.of("ring;ring;");
        check.row("loops of loose ones", new long[] {x.loops(0), x.loops(1), x.loops(-1)}, 2, -1, -1);
        x = Check.of("ring over 0-under 0-;");
        check.row("loops of a minus", new long[] {x.loops(0), x.loops(1)}, 1, 2);
        x = Check.of(FIGURE_EIGHT);
        check.row("loops of a figure eight", new long[] {x.loops(0), x.loops(15), x.loops(10), x.loops(5)}, 3, 3, 3, 1);
        for (int far : FAR) {
            check.due("loops(" + far + ")", x.loops(far), NONE);
        }
        check.due("loops of nothing", new KnotRows().loops(0), NONE);
    }

    /** All coefficients from -60 to 60 are 0 but those that are told: power, coefficient, and so on. */
    private void coefficients(KnotRows x, boolean knotted, int... due) {
        for (int e = -60; e <= 60; e++) {
            int want = 0;
            for (int i = 0; i < due.length; i += 2) {
                want = due[i] == e ? due[i + 1] : want;
            }
            check.due("coefficient(" + e + ", " + knotted + ") of " + Check.told(x), x.coefficient(e, knotted), want);
        }
    }

    private void brackets() {
        coefficients(new KnotRows(), false);
        coefficients(Check.of("ring;"), false, 0, 1);
        coefficients(Check.of("ring;ring;"), false, 2, -1, -2, -1);
        coefficients(Check.of("ring;ring;ring;"), false, 4, 1, 0, 2, -4, 1);
        coefficients(Check.of("ring;ring;ring;ring;"), false, 6, -1, 2, -3, -2, -3, -6, -1);
        coefficients(Check.of("braid 2 1;"), false, 3, -1);
        coefficients(Check.of("braid 2 -1;"), false, -3, -1);
        coefficients(Check.of(HOPF), false, 4, -1, -4, -1);
        coefficients(Check.of(TREFOIL), false, 5, -1, -3, -1, -7, 1);
        coefficients(Check.of("braid 2 -1 -1 -1;"), false, -5, -1, 3, -1, 7, 1);
        coefficients(Check.of(FIGURE_EIGHT), false, 8, 1, 4, -1, 0, 1, -4, -1, -8, 1);
        KnotRows x = Check.of(TREFOIL);
        for (int far : FAR) {
            check.due("coefficient(" + far + ")", x.coefficient(far, far > 0), 0);
        }
    }

    private void knotted() {
        coefficients(new KnotRows(), true);
        coefficients(Check.of("ring;"), true, 0, 1);
        coefficients(Check.of("braid 2 1;"), true, 0, 1);
        coefficients(Check.of("braid 2 -1;"), true, 0, 1);
        coefficients(Check.of(HOPF), true, -2, -1, -10, -1);
        coefficients(Check.of("braid 2 -1 -1;"), true, 2, -1, 10, -1);
        coefficients(Check.of(TREFOIL), true, -4, 1, -12, 1, -16, -1);
        coefficients(Check.of(TORUS_34), true, -12, 1, -20, 1, -32, -1);
        coefficients(Check.of(BORROMEAN), true, 12, -1, 8, 3, 4, -2, 0, 4, -4, -2, -8, 3, -12, -1);
        KnotRows x = Check.of("braid 2 1 1 1 1 1 1 1 1;");
        coefficients(x, true, -14, -1, -22, -1, -26, 1, -30, -1, -34, 1, -38, -1, -42, 1, -46, -1);
        x.mirror();
        coefficients(x, true, 14, -1, 22, -1, 26, 1, 30, -1, 34, 1, 38, -1, 42, 1, 46, -1);
    }

    private void movesKeepKnotted() {
        KnotRows x = Check.of("braid 3 1 2 1 -2;");
        x.hold(0);
        for (int i = 0; i < 4; i++) {
            x.kink(3 * i, i % 2 == 0, i % 3 == 0);
            check.due("alike behind a kink", x.alike(0, 0), 1);
        }
        for (int face = 0; face < x.count(3); face++) {
            if (x.slide(face)) {
                check.due("alike behind a slide", x.alike(0, 0), 1);
            }
        }
        check.due("some went", x.loosen() > 0, true);
        check.due("alike behind all", x.alike(0, 0), 1);
        check.due("but not the rows", x.alike(0, 2), 0);
    }

    private void windings() {
        KnotRows x = Check.of("braid 3 1 1 2 2 -2 -2;");
        check.row("windings", new long[] {x.winding(0, 1), x.winding(1, 0), x.winding(0, 2), x.winding(1, 2), x.winding(2, 1)}, 1, 1, 0, 0, 0);
        x = Check.of("braid 2 -1 -1 -1 -1;");
        check.due("winding", x.winding(0, 1), -2);
        x.kink(0, true, true);
        check.due("a kink does not wind", x.winding(0, 1), -2);
        x = Check.of(BORROMEAN);
        check.row("Borromean", new long[] {x.winding(0, 1), x.winding(0, 2), x.winding(1, 2)}, 0, 0, 0);
        check.row("others", new long[] {x.winding(0, 0), x.winding(0, 3), x.winding(3, 0), x.winding(-1, 0), x.winding(0, -1),
            x.winding(Integer.MAX_VALUE, 0), x.winding(0, Integer.MIN_VALUE), x.winding(3, 3)},
            OTHERS, OTHERS, OTHERS, OTHERS, OTHERS, OTHERS, OTHERS, OTHERS);
        check.due("of nothing", new KnotRows().winding(0, 1), OTHERS);
    }

    private void colouringsOf(String text, long... due) {
        KnotRows x = Check.of(text);
        check.row("colourings of " + text, new long[] {x.colourings(2), x.colourings(3), x.colourings(5), x.colourings(7),
            x.colourings(11), x.colourings(13)}, due);
    }

    private void colourings() {
        colouringsOf("", 1, 1, 1, 1, 1, 1);
        colouringsOf("ring;", 2, 3, 5, 7, 11, 13);
        colouringsOf("ring;ring;ring;ring;", 16, 81, 625, 2401, 14641, 28561);
        colouringsOf(TREFOIL, 2, 9, 5, 7, 11, 13);
        colouringsOf(HOPF, 4, 3, 5, 7, 11, 13);
        colouringsOf(FIGURE_EIGHT, 2, 3, 25, 7, 11, 13);
        colouringsOf(BORROMEAN, 8, 3, 5, 7, 11, 13);
        colouringsOf("braid 2 1 1 1 1 1 1 1;", 2, 3, 5, 49, 11, 13);
        colouringsOf("braid 3 1 1 1 -2 1 -2;", 2, 3, 5, 7, 121, 13);
        colouringsOf("braid 3 1 1 -2 1 -2 -2;", 2, 3, 5, 7, 11, 169);
        colouringsOf("ring over 0+over 1-;ring;ring under 0+under 1-;ring;", 16, 81, 625, 2401, 14641, 28561);
        KnotRows x = Check.of(TREFOIL);
        for (int p : new int[] {-1, 0, 1, 4, 6, 9, 12, 14, 17, -3, Integer.MAX_VALUE, Integer.MIN_VALUE}) {
            check.due("colourings(" + p + ")", x.colourings(p), NONE);
        }
    }

    private void determinant(String text, int due) {
        check.due("determinant of " + text, Check.of(text).count(7), due);
    }

    private void determinants() {
        determinant("", 0);
        determinant("ring;", 1);
        determinant("ring;ring;", 0);
        determinant("braid 2 1;", 1);
        determinant("ring over 0+under 0+;ring;", 0);
        determinant("ring over 0+over 1-;ring under 0+under 1-;", 0);
        determinant("braid 2 1 -1;", 0);
        determinant(HOPF, 2);
        determinant(TREFOIL, 3);
        determinant(FIGURE_EIGHT, 5);
        determinant(BORROMEAN, 16);
        determinant(TORUS_34, 3);
        determinant("braid 2 1 1 1 1 1 1 1 1;", 8);
        determinant("braid 2 -1 -1 -1 -1 -1;", 5);
        determinant("braid 3 1 1 1 -2 1 -2;", 11);
        determinant("braid 3 1 1 -2 1 -2 -2;", 13);
        determinant("braid 3 1 -2 1 -2 1 -2 1 -2;", 45);
        determinant("braid 4 1 1 3 3;", 0);
        determinant("braid 4 1 1 3 3 2;", 4);
    }

    private long[] counts(KnotRows x) {
        long[] got = new long[14];
        for (int what = 0; what < 14; what++) {
            got[what] = x.count(what);
        }
        return got;
    }

    private void counts() {
        KnotRows x = new KnotRows();
        check.row("counts of nothing", counts(x), 0, 0, 0, 0, 0, 0, 0, 0, 0, 0, 0, 0, 0, 1);
        x = Check.of("ring;ring;");
        check.row("counts of loose ones", counts(x), 2, 0, 0, 0, 0, 0, 2, 0, 4, 2, 0, 0, 0, 1);
        x = Check.of("braid 4 1 1 3 -3;");
        check.row("counts of two parts", counts(x), 4, 4, 8, 8, 2, 2, 4 + 1, 0, 8 + 4 + 4 + 0, 0, 0, 4, 0, 0);
        x = Check.of("braid 3 1 2 1;");
        check.row("counts of a triangle", counts(x), 2, 3, 6, 5, 1, 3, 3, 2, 8, 0, 1, 0, 1, 0);
        x = Check.of("braid 4 2;");
        check.row("counts of a kinked one", counts(x), 3, 1, 2, 3, 1, 1, 3, 0, 8, 2, 2, 0, 0, 1);
        for (int what : new int[] {-1, 17, 18, Integer.MIN_VALUE, Integer.MAX_VALUE}) {
            check.due("count(" + what + ")", x.count(what), OTHERS);
        }
        Check.feed(x, "ring");
        check.due("bytes", x.count(14), 4);
        x.mirror();
        check.due("things", x.count(15), 1);
        x.hold(2);
        x.hold(2);
        x.hold(0);
        check.due("slots", x.count(16), 2);
    }

    private void arcs() {
        check.due("arcs of a trefoil", Check.of(TREFOIL).count(6), 3);
        check.due("arcs of a ring above", Check.of("ring over 0+over 1-;ring under 0+under 1-;").count(6), 3);
        check.due("arcs of a kink", Check.of("braid 2 1;").count(6), 1);
        check.due("arcs beside loose rings", Check.of("ring;ring over 1+under 1+;ring;").count(6), 3);
    }

    private void turns() {
        check.due("a trefoil", Check.of(TREFOIL).count(13), 1);
        check.due("a figure eight", Check.of(FIGURE_EIGHT).count(13), 1);
        check.due("a torus knot", Check.of(TORUS_34).count(13), 0);
        check.due("two rings, one above", Check.of("braid 2 1 -1;").count(13), 0);
        check.due("one ring does, one does not", Check.of("ring over 0+under 0+;ring over 1+over 2-;ring under 1+under 2-;").count(13), 0);
        check.due("a Hopf link with a loose one", Check.of("ring;ring over 0+under 1+;ring under 0+over 1+;").count(13), 1);
    }

    private void spans() {
        check.due("a trefoil", Check.of(TREFOIL).count(8), 12);
        check.due("a kink", Check.of("braid 2 1;").count(8), 0);
        check.due("loose ones", Check.of("ring;ring;ring;ring;").count(8), 12);
        check.due("eight crossings in turns", Check.of("braid 3 1 -2 1 -2 1 -2 1 -2;").count(8), 32);
        check.due("a torus knot", Check.of(TORUS_34).count(8), 20);
    }
}
