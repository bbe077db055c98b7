/**
 * The sentences of promises 15 to 24 and 27 that name a boundary, each with a test of its own, in the
 * document's order. What is due was worked out by hand, from the document's words, but for what has
 * too many cases for that: freed() of TIED, and looser() of TIED and of the braid of four strands,
 * which are as class and Model, written apart from each other, both answer.
 */
public final class AskedBoundsTest {
    private static final int NONE = KnotRows.NONE;
    private static final int OTHERS = -100000;
    private static final String HOPF = "ring over 0 + under 1 + ; ring under 0 + over 1 + ;";
    private static final String TREFOIL = "ring over 0 + under 1 + over 2 + under 0 + over 1 + under 2 + ;";
    private static final String EIGHT = "braid 2 1 1 1 1 1 1 1 1;";
    private static final String TIED = "braid 3 2 1 2 1 2 1;";
    private static final String APART = "ring over 0+under 0+;ring over 1+under 1+;";
    private static final String LOOSE = "ring;ring over 4-under 4-;ring;ring under 7+over 7+;";

    private final Check check = new Check("asked bounds");

    public static void main(String[] args) {
        AskedBoundsTest test = new AskedBoundsTest();
        test.ringOfNoSuchRing();
        test.ringOfNoSuchPass();
        test.ringOfALooseOne();
        test.ringOfTheLastCrossing();
        test.crossingOfNoSuchCrossing();
        test.crossingOfNoSuchWhat();
        test.crossingOfTheFirstAndTheLast();
        test.crossingsThatAreGone();
        test.facesHowManyWhateverWhatIs();
        test.faceOfNoSuchFace();
        test.faceOfNoSuchWhat();
        test.faceOfTheFirstAndTheLast();
        test.loopsOfNoSuchState();
        test.loopsOfOnlyOneState();
        test.loopsWithoutRings();
        test.coefficientOfFarPowers();
        test.coefficientWithoutRings();
        test.coefficientOfTheOuterPowers();
        test.windingOfNoSuchRings();
        test.windingOfLikeRings();
        test.windingOfTheFirstAndTheLast();
        test.colouringsOfNoSuchNumber();
        test.colouringsOfEachNumber();
        test.freedOfOthers();
        test.freedOfNothing();
        test.freedNever();
        test.freedTheLeastBits();
        test.freedBehindAChange();
        test.looserOfNoSuchNumber();
        test.looserWithoutSlides();
        test.looserByOneTwoThree();
        test.looserChangesNothing();
        test.alikeOfNoSuchSlot();
        test.alikeOfOthers();
        test.alikeWithoutRings();
        test.alikeExchanged();
        test.alikeByEachNumber();
        test.countOfOthers();
        test.countWithoutRings();
        test.countOfLooseRings();
        test.countOfTheMost();
        test.countOfTheTape();
        test.countOfThings();
        test.countOfSlots();
        test.askingChangesNothing();
        test.check.end();
    }

    // ---- promise 15: ring ----

    private void ringOfNoSuchRing() {
        KnotRows x = Check.of(HOPF);
        for (int ring : Check.outside(2)) {
            check.due("ring(" + ring + ", NONE)", x.ring(ring, NONE), NONE);
            check.due("ring(" + ring + ", 0)", x.ring(ring, 0), NONE);
        }
        check.due("ring(0, NONE) without RINGS", new KnotRows().ring(0, NONE), NONE);
        check.due("ring(NONE, NONE) without RINGS", new KnotRows().ring(NONE, NONE), NONE);
        check.due("ring(4, NONE)", Check.of("ring;ring;ring;ring;").ring(4, NONE), NONE);
    }

    private void ringOfNoSuchPass() {
        KnotRows x = Check.of(HOPF);
        for (int ring = 0; ring < 2; ring++) {
            check.due("how many", x.ring(ring, NONE), 2);
            for (int i : Check.outside(2)) {
                check.due("ring(" + ring + ", " + i + ")", x.ring(ring, i), i == NONE ? 2 : NONE);
            }
        }
    }

    private void ringOfALooseOne() {
        KnotRows x = Check.of(LOOSE);
        check.row("how many", new long[] {x.ring(0, NONE), x.ring(1, NONE), x.ring(2, NONE), x.ring(3, NONE)}, 0, 2, 0, 2);
        for (int i : Check.outside(0)) {
            check.due("ring(2, " + i + ")", x.ring(2, i), i == NONE ? 0 : NONE);
        }
        check.row("others", new long[] {x.ring(1, 0), x.ring(1, 1), x.ring(3, 0), x.ring(3, 1)}, 2, 0, 5, 7);
    }

    private void ringOfTheLastCrossing() {
        KnotRows x = Check.of(EIGHT);
        check.row("eighth", new long[] {x.ring(0, 7), x.ring(1, 7), x.ring(0, 8)}, 4 * 7 + 1, 4 * 7 + 2 + 1, NONE);
        x.switches(7);
        check.row("switched", new long[] {x.ring(0, 7), x.ring(1, 7)}, 4 * 7 + 2, 4 * 7);
    }

    // ---- promise 16: crossing ----

    private void crossingOfNoSuchCrossing() {
        KnotRows x = Check.of(HOPF);
        for (int crossing : Check.outside(2)) {
            for (int what = 0; what < 8; what++) {
                check.due("crossing(" + crossing + ", " + what + ")", x.crossing(crossing, what), OTHERS);
            }
        }
        for (int what = -1; what < 9; what++) {
            check.due("crossing(0, " + what + ") without", Check.of("ring;").crossing(0, what), OTHERS);
            check.due("crossing(8, " + what + ")", Check.of(EIGHT).crossing(8, what), OTHERS);
        }
    }

    private void crossingOfNoSuchWhat() {
        KnotRows x = Check.of(HOPF);
        for (int what : Check.outside(8)) {
            check.due("crossing(0, " + what + ")", x.crossing(0, what), OTHERS);
            check.due("crossing(1, " + what + ")", x.crossing(1, what), OTHERS);
        }
    }

    private void crossing(String about, KnotRows x, int crossing, long... due) {
        long[] got = new long[8];
        for (int what = 0; what < 8; what++) {
            got[what] = x.crossing(crossing, what);
        }
        check.row(about, got, due);
    }

    private void crossingOfTheFirstAndTheLast() {
        KnotRows x = Check.of(EIGHT);
        crossing("the first", x, 0, 1, 15, 0, 8, 7, 0, 1, 3);
        crossing("the last", x, 7, 1, 6, 15, 7, 14, 1, 0, 7);
        x.mirror();
        crossing("the first mirrored", x, 0, -1, 7, 15, 0, 8, 1, 0, 7);
        x = Check.of(LOOSE);
        crossing("minus", x, 0, -1, 0, 1, 1, 0, 1, 1, 0);
        crossing("plus", x, 1, 1, 3, 3, 2, 2, 3, 3, 1);
    }

    private void crossingsThatAreGone() {
        KnotRows x = Check.of("ring over 0+under 0+over 1-under 1-;");
        check.due("out", x.out(0), 1);
        check.due("what was 1 is 0", x.crossing(0, 0), -1);
        for (int what = 0; what < 8; what++) {
            check.due("crossing(1, " + what + ")", x.crossing(1, what), OTHERS);
        }
        x.undo();
        check.due("it is there again", x.crossing(1, 0), -1);
    }

    // ---- promise 17: face ----

    private void facesHowManyWhateverWhatIs() {
        KnotRows x = Check.of(HOPF);
        KnotRows none = new KnotRows();
        for (int what = -3; what < 8; what++) {
            check.due("face(NONE, " + what + ")", x.face(NONE, what), 4);
            check.due("face(NONE, " + what + ") without", none.face(NONE, what), 0);
        }
        for (int what : Check.outside(2)) {
            check.due("face(NONE, " + what + ")", x.face(NONE, what), 4);
        }
    }

    private void faceOfNoSuchFace() {
        KnotRows x = Check.of(HOPF);
        for (int face : Check.outside(4)) {
            for (int what = 0; face != NONE && what < 5; what++) {
                check.due("face(" + face + ", " + what + ")", x.face(face, what), NONE);
            }
        }
        for (int face : Check.outside(0)) {
            check.due("face(" + face + ", 0) of a loose ring", Check.of("ring;").face(face, 0), face == NONE ? 0 : NONE);
        }
        x = Check.of("ring over 0+under 0+;ring over 1+under 1+;ring over 2+under 2+;ring over 3+under 3+;");
        check.row("of twelve", new long[] {x.face(NONE, 0), x.face(11, 0), x.face(12, 0)}, 12, 1, NONE);
    }

    private void faceOfNoSuchWhat() {
        KnotRows x = Check.of("ring over 0+under 0+;");
        check.row("one corner", new long[] {x.face(0, -1), x.face(0, 0), x.face(0, 1), x.face(0, 2), x.face(0, 3)}, NONE, 1, 1, 0, NONE);
        check.row("two corners", new long[] {x.face(1, 0), x.face(1, 2), x.face(1, 3), x.face(1, 4)}, 2, 1, 2, NONE);
        for (int what : Check.outside(3)) {
            check.due("face(0, " + what + ")", x.face(0, what), NONE);
            check.due("face(2, " + what + ")", x.face(2, what), NONE);
        }
    }

    private void faceOfTheFirstAndTheLast() {
        KnotRows x = Check.of(LOOSE);
        check.due("faces", x.face(NONE, 0), 6);
        check.row("the first", new long[] {x.face(0, 0), x.face(0, 1), x.face(0, 2), x.face(0, 3), x.face(0, 4)}, 2, 0, 0, 3, NONE);
        check.row("the last", new long[] {x.face(5, 0), x.face(5, 1), x.face(5, 2), x.face(5, 3)}, 1, 1, 6, NONE);
        check.row("the one ahead", new long[] {x.face(4, 0), x.face(4, 1), x.face(4, 2), x.face(4, 3)}, 1, 1, 5, NONE);
        check.row("and the one ahead", new long[] {x.face(3, 0), x.face(3, 1), x.face(3, 2), x.face(3, 3)}, 2, 0, 4, 7);
    }

    // ---- promise 18: loops ----

    private void loopsOfNoSuchState() {
        KnotRows x = Check.of(TREFOIL);
        check.row("states", new long[] {x.loops(0), x.loops(1), x.loops(3), x.loops(7)}, 2, 1, 2, 3);
        for (int state : Check.outside(8)) {
            check.due("loops(" + state + ")", x.loops(state), NONE);
        }
        x = Check.of(EIGHT);
        check.row("eight", new long[] {x.loops(0), x.loops(1), x.loops(254), x.loops(255), x.loops(256)}, 2, 1, 7, 8, NONE);
        for (int state : new int[] {-1, 257, 511, 1 << 30, Integer.MIN_VALUE, Integer.MAX_VALUE}) {
            check.due("loops(" + state + ") of eight", x.loops(state), NONE);
        }
    }

    private void loopsOfOnlyOneState() {
        KnotRows x = Check.of("ring;ring;ring;");
        check.due("loops(0)", x.loops(0), 3);
        for (int state : Check.outside(1)) {
            check.due("loops(" + state + ")", x.loops(state), NONE);
        }
    }

    private void loopsWithoutRings() {
        KnotRows x = new KnotRows();
        for (int state = -1; state < 3; state++) {
            check.due("loops(" + state + ")", x.loops(state), NONE);
        }
    }

    // ---- promise 19: coefficient ----

    private void coefficientOfFarPowers() {
        KnotRows x = Check.of(EIGHT);
        KnotRows y = Check.of(EIGHT);
        y.mirror();
        int[] far = {61, 62, 84, 85, 121, 127, 128, 1000, Integer.MAX_VALUE, Integer.MAX_VALUE - 1, Integer.MAX_VALUE - 24};
        for (int e : far) {
            for (int sign = -1; sign < 2; sign += 2) {
                check.due("coefficient(" + sign * e + ", false)", x.coefficient(sign * e, false), 0);
                check.due("coefficient(" + sign * e + ", true)", x.coefficient(sign * e, true), 0);
                check.due("coefficient(" + sign * e + ", false) mirrored", y.coefficient(sign * e, false), 0);
                check.due("coefficient(" + sign * e + ", true) mirrored", y.coefficient(sign * e, true), 0);
            }
        }
        check.due("of the least", x.coefficient(Integer.MIN_VALUE, false), 0);
        check.due("of the least, knotted", x.coefficient(Integer.MIN_VALUE, true), 0);
        check.due("of the least, mirrored", y.coefficient(Integer.MIN_VALUE, true), 0);
    }

    private void coefficientWithoutRings() {
        KnotRows x = new KnotRows();
        for (int e : new int[] {0, 1, -1, 2, -2, Integer.MAX_VALUE, Integer.MIN_VALUE}) {
            check.due("coefficient(" + e + ", false)", x.coefficient(e, false), 0);
            check.due("coefficient(" + e + ", true)", x.coefficient(e, true), 0);
        }
    }

    /** All eight CROSSINGS of the torus link: A to the 10 is the greatest power, to the -22 the least. */
    private void coefficientOfTheOuterPowers() {
        KnotRows x = Check.of(EIGHT);
        check.row("outer", new long[] {x.coefficient(10, false), x.coefficient(11, false), x.coefficient(14, false),
            x.coefficient(-22, false), x.coefficient(-23, false), x.coefficient(-26, false)}, -1, 0, 0, -1, 0, 0);
        check.row("outer, knotted", new long[] {x.coefficient(-14, true), x.coefficient(-10, true), x.coefficient(-46, true),
            x.coefficient(-50, true)}, -1, 0, -1, 0);
        x.mirror();
        check.row("outer, mirrored", new long[] {x.coefficient(-10, false), x.coefficient(22, false), x.coefficient(14, true),
            x.coefficient(46, true), x.coefficient(50, true)}, -1, -1, -1, -1, 0);
    }

    // ---- promise 20: winding ----

    private void windingOfNoSuchRings() {
        KnotRows x = Check.of(HOPF);
        for (int ring : Check.outside(2)) {
            check.due("winding(0, " + ring + ")", x.winding(0, ring), OTHERS);
            check.due("winding(" + ring + ", 0)", x.winding(ring, 0), OTHERS);
            check.due("winding(" + ring + ", " + ring + ")", x.winding(ring, ring), OTHERS);
        }
        check.due("winding(0, 3)", x.winding(0, 3), OTHERS);
        check.due("winding(5, 1)", x.winding(5, 1), OTHERS);
        check.due("winding(2, 3)", x.winding(2, 3), OTHERS);
        check.due("without RINGS", new KnotRows().winding(0, 1), OTHERS);
        check.due("of one RING", Check.of("ring;").winding(0, 1), OTHERS);
    }

    private void windingOfLikeRings() {
        KnotRows x = Check.of(HOPF);
        check.due("winding(0, 0)", x.winding(0, 0), OTHERS);
        check.due("winding(1, 1)", x.winding(1, 1), OTHERS);
        check.due("winding(0, 0) of a trefoil", Check.of(TREFOIL).winding(0, 0), OTHERS);
    }

    private void windingOfTheFirstAndTheLast() {
        KnotRows x = Check.of("braid 4 1 1 -3 -3;");
        check.row("chains", new long[] {x.winding(0, 1), x.winding(1, 0), x.winding(2, 3), x.winding(3, 2), x.winding(0, 3), x.winding(1, 2)},
            1, 1, -1, -1, 0, 0);
        x = Check.of("ring;ring;ring;ring;");
        check.due("loose ones", x.winding(3, 0), 0);
        check.due("loose ones", x.winding(4, 0), OTHERS);
    }

    // ---- promise 21: colourings ----

    private void colouringsOfNoSuchNumber() {
        KnotRows x = Check.of(TREFOIL);
        for (int p = -20; p < 40; p++) {
            if (p != 2 && p != 3 && p != 5 && p != 7 && p != 11 && p != 13) {
                check.due("colourings(" + p + ")", x.colourings(p), NONE);
                check.due("colourings(" + p + ") without RINGS", new KnotRows().colourings(p), NONE);
            }
        }
        check.due("colourings of the greatest", x.colourings(Integer.MAX_VALUE), NONE);
        check.due("colourings of the least", x.colourings(Integer.MIN_VALUE), NONE);
    }

    private void colouringsOfEachNumber() {
        KnotRows x = Check.of("ring over 0+under 0+over 1+under 1+over 2+under 2+over 3+under 3+over 4+under 4+over 5+under 5+"
            + "over 6+under 6+over 7+under 7+;ring;ring;ring;");
        int[] primes = {2, 3, 5, 7, 11, 13};
        for (int p : primes) {
            check.due("colourings(" + p + ") of four that lie apart", x.colourings(p), (long) p * p * p * p);
            check.due("colourings(" + p + ") without RINGS", new KnotRows().colourings(p), 1);
            check.due("colourings(" + p + ") of a loose ring", Check.of("ring;").colourings(p), p);
            check.due("colourings(" + p + ") of a trefoil", Check.of(TREFOIL).colourings(p), p == 3 ? 9 : p);
        }
    }

    // ---- promise 22: freed ----

    private void freedOfOthers() {
        for (String text : new String[] {"", "ring;", HOPF, TIED}) {
            KnotRows x = Check.of(text);
            for (int what : Check.outside(2)) {
                check.due("freed(" + what + ") of '" + text + "'", x.freed(what), NONE);
            }
        }
    }

    private void freedOfNothing() {
        for (String text : new String[] {"", "ring;", "ring;ring;ring;ring;", "braid 2 1;", "braid 2 1 -1;"}) {
            KnotRows x = Check.of(text);
            check.due("freed(0) of '" + text + "'", x.freed(0), 0);
            check.due("freed(1) of '" + text + "'", x.freed(1), 0);
        }
    }

    private void freedNever() {
        KnotRows x = Check.of(TIED);
        check.due("freed(0)", x.freed(0), -2);
        check.due("freed(1)", x.freed(1), -2);
        check.due("NONE goes ahead of -2", x.freed(2), NONE);
        check.due("NONE goes ahead of -2", x.freed(-2), NONE);
    }

    /** Of eight like CROSSINGS any four bring it loose: the least bits are the first four. */
    private void freedTheLeastBits() {
        KnotRows x = Check.of(EIGHT);
        check.due("how many", x.freed(0), 4);
        check.due("which", x.freed(1), 15);
        x = Check.of(TREFOIL);
        check.due("which of a trefoil", x.freed(1), 1);
        x.switches(2);
        check.due("none of a loose one", x.freed(1), 0);
        x.switches(0);
        x.switches(1);
        check.due("how many of its image", x.freed(0), 1);
        check.due("which of its image", x.freed(1), 1);
        x = Check.of("ring over 9+under 9+over 0+under 1+over 2+under 0+over 1+under 2+;");
        check.due("the kink needs none", x.freed(1), 2);
    }

    private void freedBehindAChange() {
        KnotRows x = Check.of(TREFOIL);
        check.due("freed", x.freed(1), 1);
        x.kink(5, true, true);
        check.due("behind a kink", x.freed(1), 1);
        x.switches(1);
        check.due("behind a switch", x.freed(1), 0);
        x.undo();
        check.due("behind undo", x.freed(1), 1);
        x.hold(0);
        x.switches(1);
        x.loosen();
        check.due("behind loosening", x.freed(0), 0);
        x.restore(0);
        check.due("behind restore", x.freed(0), 1);
        check.due("read", Check.read(x, EIGHT), 0);
        check.due("behind a text", x.freed(0), 4);
    }

    // ---- promise 23: looser ----

    private void looserOfNoSuchNumber() {
        for (String text : new String[] {"", "ring;", "braid 2 1;", TREFOIL}) {
            KnotRows x = Check.of(text);
            for (int n : Check.outside(4)) {
                check.due("looser(" + n + ") of '" + text + "'", x.looser(n), NONE);
            }
        }
    }

    private void looser(String text, int... due) {
        KnotRows x = Check.of(text);
        for (int n = 0; n < 4; n++) {
            check.due("looser(" + n + ") of '" + text + "'", x.looser(n), due[n]);
        }
    }

    private void looserWithoutSlides() {
        looser("", 0, 0, 0, 0);
        looser("ring;ring;", 0, 0, 0, 0);
        looser(TREFOIL, 0, 0, 0, 0);
        looser("ring over 0+under 0+;", 1, 1, 1, 1);
        looser("braid 2 1 -1;", 1, 1, 1, 1);
        looser("ring over 1+under 1+under 2+over 0+;ring under 0+over 2+;", 1, 1, 1, 1);
        looser("ring over 2+over 0-under 1+over 3+under 0-under 2+under 3+over 1+;", 1, 1, 1, 1);
    }

    private void looserByOneTwoThree() {
        looser("braid 3 2 1 2 1;", 0, 1, 1, 1);
        looser("braid 3 2 2 1 2 1 1;", 0, 0, 1, 1);
        looser("braid 4 -3 -3 2 1 1 1 1;", 0, 0, 0, 1);
        looser(TIED, 0, 0, 0, 0);
    }

    private void looserChangesNothing() {
        KnotRows x = Check.of("braid 4 -3 -3 2 1 1 1 1;");
        String before = Check.seen(x);
        check.refused("looser(3)", x, before, x.looser(3), 1);
        check.refused("freed(1)", x, before, x.freed(1), x.freed(1));
        check.anew("looser", x);
    }

    // ---- promise 24: alike ----

    private void alikeOfNoSuchSlot() {
        KnotRows x = Check.of(HOPF);
        for (int what = 0; what < 3; what++) {
            for (int slot = 0; slot < 3; slot++) {
                check.due("alike(" + slot + ", " + what + ") of an empty slot", x.alike(slot, what), NONE);
            }
        }
        x.hold(0);
        x.hold(2);
        for (int what = 0; what < 3; what++) {
            for (int slot : Check.outside(3)) {
                check.due("alike(" + slot + ", " + what + ")", x.alike(slot, what), NONE);
            }
            check.due("alike(1, " + what + ") between two", x.alike(1, what), NONE);
        }
        check.row("held", new long[] {x.alike(0, 2), x.alike(2, 2)}, 1, 1);
    }

    private void alikeOfOthers() {
        KnotRows x = Check.of(HOPF);
        x.hold(1);
        for (int what : Check.outside(3)) {
            check.due("alike(1, " + what + ")", x.alike(1, what), NONE);
            check.due("alike(0, " + what + ")", x.alike(0, what), NONE);
        }
    }

    private void alike(String about, KnotRows x, int polynomial, int exchanged, int rows) {
        check.row(about, new long[] {x.alike(0, 0), x.alike(0, 1), x.alike(0, 2)}, polynomial, exchanged, rows);
    }

    private void alikeWithoutRings() {
        KnotRows x = new KnotRows();
        x.hold(0);
        alike("nothing with nothing", x, 1, 1, 1);
        x = Check.of("ring;");
        x.hold(0);
        alike("one loose ring", x, 1, 1, 1);
        x.round(0);
        alike("turned", x, 1, 1, 1);
        x = Check.of("ring;ring;");
        x.hold(0);
        x.sum(0);
        alike("three and two", x, 0, 0, 0);
    }

    private void alikeExchanged() {
        KnotRows x = Check.of(TREFOIL);
        x.hold(0);
        alike("itself", x, 1, 0, 1);
        x.mirror();
        alike("its image", x, 0, 1, 0);
        x = Check.of("braid 3 1 -2 1 -2;");
        x.hold(0);
        x.mirror();
        alike("a figure eight's image", x, 1, 1, 0);
        x = Check.of(EIGHT);
        x.hold(0);
        x.mirror();
        alike("the farthest powers", x, 0, 1, 0);
        x.round(0);
        alike("one of two turned", x, 0, 0, 0);
    }

    /** A sign, an over, the order of PASSES, the RING of a PASS: one of them is unlike. */
    private void alikeByEachNumber() {
        KnotRows x = Check.of("ring over 0+under 0+;");
        x.hold(0);
        x.kink(0, true, false);
        check.due("the first kink goes", x.out(3), 1);
        check.told(x, "ring over 0 - under 0 - ;");
        alike("the only sign is unlike", x, 1, 1, 0);
        x = Check.of(APART);
        x.hold(0);
        check.due("out", x.out(0), 1);
        x.hold(1);
        x.undo();
        check.due("out", x.out(5), 1);
        check.due("another RING is loose", x.alike(1, 2), 0);
        check.due("though as many", x.alike(1, 0), 1);
        x = Check.of("ring over 0+over 1-under 1-under 0+;");
        x.hold(0);
        x.round(0);
        alike("another order", x, 1, 1, 0);
        x = Check.of("ring over 0+under 0+;ring;");
        x.hold(0);
        x.round(1);
        alike("a loose RING turned", x, 1, 1, 1);
        x.hold(1);
        x.sum(1);
        alike("more RINGS", x, 0, 0, 0);
        x = Check.of("ring over 0+under 0+;");
        x.hold(0);
        x.kink(1, false, false);
        alike("more CROSSINGS", x, 1, 1, 0);
        x = Check.of(HOPF);
        x.hold(0);
        x.kink(3, true, false);
        check.due("the kink goes again", x.loosen(), 1);
        check.row("nothing is left of it", new long[] {x.alike(0, 0), x.alike(0, 2)}, 1, 1);
    }

    // ---- promise 27: count ----

    private void countOfOthers() {
        for (String text : new String[] {"", "ring;", TREFOIL}) {
            for (int what : Check.outside(17)) {
                check.due("count(" + what + ") of '" + text + "'", Check.of(text).count(what), OTHERS);
            }
        }
    }

    private long[] counts(KnotRows x) {
        long[] got = new long[14];
        for (int what = 0; what < 14; what++) {
            got[what] = x.count(what);
        }
        return got;
    }

    private void countWithoutRings() {
        check.row("nothing", counts(Check.of("")), 0, 0, 0, 0, 0, 0, 0, 0, 0, 0, 0, 0, 0, 1);
    }

    private void countOfLooseRings() {
        check.row("one", counts(Check.of("ring;")), 1, 0, 0, 0, 0, 0, 1, 1, 0, 1, 0, 0, 0, 1);
        check.row("four", counts(Check.of("braid 4;")), 4, 0, 0, 0, 0, 0, 4, 0, 12, 4, 0, 0, 0, 1);
        check.row("two of four", counts(Check.of(LOOSE)), 4, 2, 4, 6, 2, 0, 4, 0, 12, 2, 4, 0, 0, 1);
    }

    private void countOfTheMost() {
        KnotRows x = Check.of("ring over 0+under 0+over 1+under 1+;ring over 2+under 2+over 3+under 3+;"
            + "ring over 4+under 4+over 5+under 5+;ring over 6+under 6+over 7+under 7+;");
        check.row("kinks", counts(x), 4, 8, 16, 16, 4, 8, 8, 0, 12, 0, 8, 0, 0, 1);
        x = Check.of(EIGHT);
        check.row("eight", counts(x), 2, 8, 16, 10, 1, 8, 8, 8, 32, 0, 0, 0, 0, 1);
        x = Check.of("braid 2 1 -1 1 -1 1 -1 1 -1;");
        check.row("pairs", counts(x), 2, 8, 16, 10, 1, 0, 9, 0, 4, 0, 0, 8, 0, 0);
    }

    private void countOfTheTape() {
        KnotRows x = new KnotRows();
        check.due("empty", x.count(14), 0);
        Check.feed(x, "ring;");
        check.due("fed", x.count(14), 5);
        x.back(6);
        check.due("not gone back", x.count(14), 5);
        x.hold(0);
        x.restore(0);
        check.due("restore leaves it", x.count(14), 5);
        x.back(5);
        check.due("gone back", x.count(14), 0);
        for (int i = 0; i < 101; i++) {
            x.feed(0, 0, 0, 0, 0);
        }
        check.due("full", x.count(14), 2000);
        x.read();
        check.due("read", x.count(14), 0);
    }

    private void countOfThings() {
        KnotRows x = Check.of(HOPF);
        check.due("none", x.count(15), 0);
        for (int i = 1; i <= 45; i++) {
            x.mirror();
            check.due("things", x.count(15), Math.min(i, 40));
        }
        x.undo();
        check.due("one less", x.count(15), 39);
        check.fault(x, "ring", 1, 4);
        check.due("a fault leaves them", x.count(15), 39);
        check.fits(x, "ring;", "ring ;");
        check.due("a text does not", x.count(15), 0);
    }

    private void countOfSlots() {
        KnotRows x = Check.of(HOPF);
        check.due("none", x.count(16), 0);
        x.hold(2);
        check.due("one", x.count(16), 1);
        x.hold(2);
        check.due("the same again", x.count(16), 1);
        x.hold(0);
        x.hold(1);
        check.due("three", x.count(16), 3);
        x.hold(3);
        x.restore(1);
        x.undo();
        check.due("still three", x.count(16), 3);
        check.fault(x, "ring", 1, 4);
        check.due("a fault leaves them", x.count(16), 3);
        check.fits(x, "ring;", "ring ;");
        check.due("a text does not", x.count(16), 0);
    }

    private void askingChangesNothing() {
        KnotRows x = Check.of("braid 3 1 2 1;");
        x.mirror();
        x.hold(1);
        Check.feed(x, "ring");
        String before = Check.seen(x);
        for (int a = -1; a < 5; a++) {
            for (int b = -1; b < 8; b++) {
                x.ring(a, b);
                x.crossing(a, b);
                x.face(a, b);
                x.winding(a, b);
                x.alike(a, b);
            }
            x.loops(a);
            x.coefficient(a, true);
            x.colourings(a);
            x.freed(a);
            x.looser(a);
            x.count(a);
        }
        check.due("nothing has happened", Check.seen(x).equals(before), true);
        check.anew("asked much", x);
    }
}
