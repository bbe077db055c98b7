/**
 * The sentences of the second part of the terms that name a boundary, each with a test of its own,
 * in the document's order. What is due was worked out by hand, from the document's words.
 */
public final class RowsBoundsTest {
    private static final int NONE = KnotRows.NONE;
    private static final String HOPF = "braid 2 1 1;";
    private static final String TREFOIL = "braid 2 1 1 1;";
    private static final String EIGHT = "braid 2 1 1 1 1 1 1 1 1;";
    private static final String FOUR_RINGS_OF_KINKS = "ring over 0+under 0+over 1+under 1+;ring over 2+under 2+over 3+under 3+;"
        + "ring over 4+under 4+over 5+under 5+;ring over 6+under 6+over 7+under 7+;";

    private final Check check = new Check("rows bounds");

    public static void main(String[] args) {
        RowsBoundsTest test = new RowsBoundsTest();
        test.edgesGoRoundEachRing();
        test.edgesAreNumberedRingByRing();
        test.endsAreTheOtherWayRoundWithMinus();
        test.facesOfOneCrossing();
        test.facesOfTwoParts();
        test.cornersAtOneCrossing();
        test.partsHangTogether();
        test.facesAreAsManyAsCrossingsAndTwiceTheParts();
        test.waysToPart();
        test.looseRingsAreLoopsToo();
        test.noRingsNoBracket();
        test.mostLoops();
        test.writheBelowNought();
        test.writheOfNought();
        test.spanOfOneTerm();
        test.windings();
        test.arcs();
        test.arcsWithoutPassesUnder();
        test.colouringsOfNothing();
        test.determinantsWithoutRows();
        test.determinantsWithMoreArcs();
        test.kinkHasOneCorner();
        test.pairHasUnlikeCrossings();
        test.triangleHasUnlikeCrossings();
        test.triangleHasOneAboveAndOneBelow();
        test.turnsOfRingsWithoutPasses();
        test.check.end();
    }

    private long[] ends(String text, int crossing) {
        KnotRows x = Check.of(text);
        long[] ends = new long[4];
        for (int end = 0; end < 4; end++) {
            ends[end] = x.crossing(crossing, end + 1);
        }
        return ends;
    }

    private void faces(String text, long[]... due) {
        KnotRows x = Check.of(text);
        check.due("faces of " + text, x.face(NONE, 0), due.length);
        for (int face = 0; face < due.length; face++) {
            long[] got = new long[Math.max(x.face(face, 0), 0)];
            for (int i = 0; i < got.length; i++) {
                got[i] = x.face(face, 2 + i);
            }
            check.row("face " + face + " of " + text, got, due[face]);
        }
    }

    private static long[] way(long... ways) {
        return ways;
    }

    private long[] kinds(KnotRows x) {
        long[] kinds = new long[x.face(NONE, 0)];
        for (int face = 0; face < kinds.length; face++) {
            kinds[face] = x.face(face, 1);
        }
        return kinds;
    }

    /** The first PASS is behind the last one: a RING's last EDGE goes to its first PASS. */
    private void edgesGoRoundEachRing() {
        check.row("over first", ends("ring over 0+under 0+;", 0), 0, 0, 1, 1);
        check.row("under first", ends("ring under 0+over 0+;", 0), 1, 1, 0, 0);
    }

    private void edgesAreNumberedRingByRing() {
        String text = "ring;ring over 0+under 0+;ring;ring over 1-under 1-;";
        check.row("first", ends(text, 0), 0, 0, 1, 1);
        check.row("behind a loose one", ends(text, 1), 2, 3, 3, 2);
        KnotRows x = Check.of(text);
        check.row("rings", new long[] {x.crossing(0, 5), x.crossing(0, 6), x.crossing(1, 5), x.crossing(1, 6)}, 1, 1, 3, 3);
        check.due("edges", x.count(2), 4);
        check.due("edges of loose rings", Check.of("ring;ring;").count(2), 0);
    }

    private void endsAreTheOtherWayRoundWithMinus() {
        check.row("over first", ends("ring over 0-under 0-;", 0), 0, 1, 1, 0);
        check.row("under first", ends("ring under 0-over 0-;", 0), 1, 0, 0, 1);
    }

    private void facesOfOneCrossing() {
        faces("ring over 0+under 0+;", way(0), way(1, 2), way(3));
        faces("ring over 0-under 0-;", way(0, 3), way(1), way(2));
        faces("ring;");
        faces("");
    }

    private void facesOfTwoParts() {
        faces("ring;ring over 0+under 0+;ring;ring over 1-under 1-;", way(0), way(1, 2), way(3), way(4, 7), way(5), way(6));
        faces("ring over 0+under 0+over 1-under 1-over 2+under 2+;",
            way(0), way(1, 2, 6, 9, 10), way(3, 11, 7, 4), way(5), way(8));
    }

    /** A FACE that comes by the same CROSSING twice has a corner more. */
    private void cornersAtOneCrossing() {
        KnotRows x = Check.of("ring over 0+under 0+;");
        check.row("corners", new long[] {x.face(0, 0), x.face(1, 0), x.face(2, 0), x.face(3, 0)}, 1, 2, 1, NONE);
        faces("ring over 0+over 1+under 1+under 0+;", way(0, 3, 4), way(1, 6, 5), way(2), way(7));
    }

    private void parts(String text, int due) {
        check.due("parts of " + text, Check.of(text).count(4), due);
    }

    private void partsHangTogether() {
        parts("", 0);
        parts("ring;ring;ring;ring;", 0);
        parts("braid 2 1;", 1);
        parts("ring over 0+under 0+;ring over 1+under 1+;ring over 2+under 2+;ring over 3+under 3+;", 4);
        parts("braid 4 1 1 3 3;", 2);
        parts("braid 4 1 1 2 2 3 3;", 1);
        parts("braid 4 3 3 2 2 1 1;", 1);
        parts("braid 4 2 2 1 1 3 3;", 1);
        parts("braid 4 2 2;", 1);
        parts("ring over 0+under 1+;ring;ring over 7+under 7+;ring under 0+over 1+;", 2);
        parts("ring over 0+under 1+;ring over 2+under 3+;ring under 0+over 1+;ring under 2+over 3+;", 2);
    }

    private void facesAreAsManyAsCrossingsAndTwiceTheParts() {
        for (String text : new String[] {"ring over 0+under 0+;ring over 1+under 1+;ring over 2+under 2+;ring over 3+under 3+;",
            EIGHT, FOUR_RINGS_OF_KINKS, "braid 4 1 3;", "braid 4 3 3 2 2 1 1;", "ring;"}) {
            KnotRows x = Check.of(text);
            check.due("faces of " + text, x.count(3), x.count(1) + 2 * x.count(4));
        }
        check.fault("ring over 0+under 1-;ring under 0+over 1-;", 6, 42);
        check.fault("ring over 0+under 0+;ring over 1+under 2-;ring under 1+over 2-;", 6, 63);
    }

    private void waysToPart() {
        KnotRows x = Check.of("ring over 0+under 0+over 1-under 1-;");
        check.row("loops", new long[] {x.loops(0), x.loops(1), x.loops(2), x.loops(3)}, 2, 1, 3, 2);
        x = Check.of(HOPF);
        check.row("loops", new long[] {x.loops(0), x.loops(1), x.loops(2), x.loops(3)}, 2, 1, 1, 2);
    }

    private void looseRingsAreLoopsToo() {
        KnotRows x = Check.of("ring;ring;ring;ring;");
        check.due("loops of loose ones", x.loops(0), 4);
        x = Check.of("ring;ring over 0+under 0+;ring;ring;");
        check.row("loops beside loose ones", new long[] {x.loops(0), x.loops(1)}, 5, 4);
    }

    private void coefficients(String about, KnotRows x, boolean knotted, int... due) {
        for (int e = -64; e <= 64; e++) {
            int want = 0;
            for (int i = 0; i < due.length; i += 2) {
                want = due[i] == e ? due[i + 1] : want;
            }
            check.due(about + ": coefficient(" + e + ", " + knotted + ")", x.coefficient(e, knotted), want);
        }
    }

    private void noRingsNoBracket() {
        KnotRows x = Check.of("braid 2 1 1;");
        check.due("read", x.read(), 0);
        coefficients("no rings", x, false);
        coefficients("no rings", x, true);
        check.due("span", x.count(8), 0);
        x = Check.of("ring;");
        coefficients("one loose ring", x, false, 0, 1);
        coefficients("one loose ring", x, true, 0, 1);
    }

    /** Eight CROSSINGS, each of which makes a LOOP more when parted, on four RINGS: twelve. */
    private void mostLoops() {
        KnotRows x = Check.of(FOUR_RINGS_OF_KINKS);
        check.due("loops", x.loops(0), 12);
        check.due("loops the other way", x.loops(255), 4);
        check.due("loops half and half", x.loops(0x55), 8);
        coefficients("kinks", x, false, 30, -1, 26, -3, 22, -3, 18, -1);
        coefficients("kinks", x, true, 6, -1, 2, -3, -2, -3, -6, -1);
        check.due("span", x.count(8), 12);
        x.mirror();
        check.due("loops mirrored", x.loops(255), 12);
        coefficients("kinks mirrored", x, false, -30, -1, -26, -3, -22, -3, -18, -1);
        coefficients("kinks mirrored", x, true, 6, -1, 2, -3, -2, -3, -6, -1);
    }

    private void writheBelowNought() {
        KnotRows x = Check.of(EIGHT);
        check.due("writhe", x.count(5), 8);
        x.mirror();
        check.due("writhe mirrored", x.count(5), -8);
        x = Check.of("braid 2 -1;");
        check.due("writhe of one", x.count(5), -1);
        coefficients("one below", x, false, -3, -1);
        coefficients("one below", x, true, 0, 1);
        x = Check.of("braid 2 -1 -1;");
        coefficients("two below", x, false, 4, -1, -4, -1);
        coefficients("two below", x, true, 10, -1, 2, -1);
    }

    private void writheOfNought() {
        KnotRows x = Check.of("braid 2 1 -1;");
        check.due("writhe", x.count(5), 0);
        coefficients("nought", x, false, 2, -1, -2, -1);
        coefficients("nought", x, true, 2, -1, -2, -1);
    }

    private void spanOfOneTerm() {
        check.due("a loose ring", Check.of("ring;").count(8), 0);
        check.due("kinks that all turn one way", Check.of("ring over 0+under 0+over 1+under 1+;").count(8), 0);
        check.due("two loose rings", Check.of("ring;ring;").count(8), 4);
        check.due("a ring of kinks and a loose one", Check.of("ring over 0+under 0+over 1+under 1+;ring;").count(8), 4);
    }

    private void windings() {
        KnotRows x = Check.of(EIGHT);
        check.due("most", x.winding(0, 1), 4);
        x.mirror();
        check.due("least", x.winding(1, 0), -4);
        x = Check.of("braid 2 1 -1;");
        check.due("neither", x.winding(0, 1), 0);
        x = Check.of("ring over 0+under 0+;ring;ring over 1-under 1-;");
        check.row("apart", new long[] {x.winding(0, 1), x.winding(0, 2), x.winding(2, 1)}, 0, 0, 0);
        x = Check.of("braid 2 1 1 1 1 1 1 -1 1;");
        check.due("ahead of loosening", x.winding(0, 1), 3);
        check.due("loosen", x.loosen(), 2);
        check.due("what went does not wind", x.winding(0, 1), 3);
    }

    private void arcs() {
        check.due("no rings", new KnotRows().count(6), 0);
        check.due("one that ends where it begins", Check.of("ring under 0+over 0+;").count(6), 1);
        check.due("eight", Check.of(EIGHT).count(6), 8);
        check.due("eight and three loose ones", Check.of("ring over 0+under 0+over 1+under 1+over 2+under 2+over 3+under 3+over 4+under 4+"
            + "over 5+under 5+over 6+under 6+over 7+under 7+;ring;ring;ring;").count(6), 11);
        KnotRows x = Check.of("ring over 0+under 1+over 1+under 0+;");
        check.row("the last goes on over the beginning", new long[] {x.crossing(0, 7), x.crossing(1, 7)}, 1, 0);
        x = Check.of("ring under 0+over 1+under 1+over 0+;");
        check.row("the first begins with the first pass", new long[] {x.crossing(0, 7), x.crossing(1, 7)}, 1, 0);
    }

    private void arcsWithoutPassesUnder() {
        KnotRows x = Check.of("ring over 0+over 1-;ring under 0+under 1-;");
        check.due("arcs", x.count(6), 3);
        check.row("the arc above is behind all", new long[] {x.crossing(0, 7), x.crossing(1, 7)}, 2, 2);
        x = Check.of("ring under 0+under 1-;ring over 0+over 1-;ring;");
        check.due("arcs", x.count(6), 4);
        check.row("the arc above is behind those with passes under", new long[] {x.crossing(0, 7), x.crossing(1, 7)}, 2, 2);
        check.due("a loose ring", Check.of("ring;").count(6), 1);
    }

    private void colouringsOfNothing() {
        KnotRows x = Check.of("");
        check.row("no arcs, one way", new long[] {x.colourings(2), x.colourings(13)}, 1, 1);
        x = Check.of("ring;ring;ring;ring;");
        check.row("no crossings", new long[] {x.colourings(2), x.colourings(13)}, 16, 28561);
        x = Check.of(FOUR_RINGS_OF_KINKS);
        check.row("kinks", new long[] {x.colourings(2), x.colourings(3)}, 16, 81);
        x = Check.of("braid 2 1;");
        check.row("one arc over itself", new long[] {x.colourings(2), x.colourings(3), x.colourings(13)}, 2, 3, 13);
    }

    private void determinant(String text, int due) {
        check.due("determinant of '" + text + "'", Check.of(text).count(7), due);
    }

    private void determinantsWithoutRows() {
        determinant("", 0);
        determinant("ring;", 1);
        determinant("ring;ring;", 0);
        determinant("ring;ring;ring;ring;", 0);
        determinant("ring over 0+under 0+;", 1);
        determinant("ring under 0-over 0-;", 1);
    }

    private void determinantsWithMoreArcs() {
        determinant("ring over 0+under 0+;ring;", 0);
        determinant("braid 3 1 1 1;", 0);
        determinant("ring over 0+over 1-;ring under 0+under 1-;", 0);
        determinant("ring over 0+under 0+;ring over 1+under 1+;", 0);
        determinant(HOPF, 2);
        determinant("braid 2 -1 -1;", 2);
        determinant(TREFOIL, 3);
        determinant(EIGHT, 8);
    }

    private void kinkHasOneCorner() {
        KnotRows x = Check.of("ring over 0+under 0+over 1-under 1-over 2+under 2+;");
        check.row("kinds", kinds(x), 1, 0, 0, 1, 1);
        check.due("kinks", x.count(10), 3);
        x = Check.of("ring over 0-under 0-;");
        check.row("kinds of one crossing", kinds(x), 0, 1, 1);
    }

    private void pairHasUnlikeCrossings() {
        KnotRows x = Check.of("ring over 0+under 0+;");
        check.row("two corners at one crossing", kinds(x), 1, 0, 1);
        check.due("pairs", x.count(11), 0);
        x = Check.of(HOPF);
        check.row("each edge over once", kinds(x), 0, 0, 0, 0);
        x.switches(0);
        check.row("one edge over at both", kinds(x), 2, 2, 2, 2);
        check.due("pairs", x.count(11), 4);
    }

    /** Its EDGES are over at both ends, at one, at none; but two of the corners are one CROSSING's. */
    private void triangleHasUnlikeCrossings() {
        KnotRows x = Check.of("ring over 0+over 1+under 1+under 0+;");
        check.row("corners", new long[] {x.face(0, 0), x.face(1, 0)}, 3, 3);
        check.row("kinds", kinds(x), 0, 0, 1, 1);
        check.due("triangles", x.count(12), 0);
        check.due("slide", x.slide(0), false);
        check.due("slide", x.slide(1), false);
    }

    private void triangleHasOneAboveAndOneBelow() {
        KnotRows x = Check.of("braid 3 1 2 1;");
        check.row("kinds", kinds(x), 0, 3, 1, 0, 0);
        check.due("triangles", x.count(12), 1);
        x = Check.of("braid 3 1 -2 1;");
        check.due("each edge over once", x.count(12), 0);
        x = Check.of("braid 3 -1 -2 -1;");
        check.due("all under", x.count(12), 1);
        x = Check.of("braid 3 1 2 -1;");
        check.due("over, over, under", x.count(12), 1);
        x = Check.of("braid 3 1 -2 -1;");
        check.due("over, under, under", x.count(12), 1);
        x = Check.of("braid 3 -1 2 -1;");
        check.due("each edge over once, the other way", x.count(12), 0);
        x = Check.of(TREFOIL);
        check.due("three corners, but over and under in turns", x.count(12), 0);
    }

    private void turnsOfRingsWithoutPasses() {
        check.due("no rings", new KnotRows().count(13), 1);
        check.due("loose rings", Check.of("ring;ring;").count(13), 1);
        check.due("two passes", Check.of("ring over 0+under 0+;").count(13), 1);
        check.due("two passes above, two below", Check.of("braid 2 1 -1;").count(13), 0);
        check.due("the last ring does not", Check.of("ring over 0+under 0+;ring over 1+over 2+under 2+under 1+;").count(13), 0);
        check.due("the first ring does not", Check.of("ring over 1+over 2+under 2+under 1+;ring;ring over 0+under 0+;").count(13), 0);
    }
}
