/**
 * The sentences of promises 6 to 14, 25 and 26 that name a boundary, each with a test of its own, in
 * the document's order. What is due was worked out by hand, from the document's words; the rows on
 * which the order of loosening can be seen were looked for by a program, and then worked out so.
 */
public final class DoneBoundsTest {
    private static final int NONE = KnotRows.NONE;
    private static final String HOPF = "ring over 0 + under 1 + ; ring under 0 + over 1 + ;";
    private static final String TREFOIL = "ring over 0 + under 1 + over 2 + under 0 + over 1 + under 2 + ;";
    private static final String KINKS = "ring over 0 + under 0 + over 1 - under 1 - over 2 + under 2 + ;";
    private static final String APART = "ring over 0 - under 0 - ; ring over 1 + under 1 + ;";

    private final Check check = new Check("done bounds");

    public static void main(String[] args) {
        DoneBoundsTest test = new DoneBoundsTest();
        test.outOfTheFirstAndTheLastFace();
        test.outTellsHowManyAreLeft();
        test.outOfAPair();
        test.outOfAPairWithOneBetween();
        test.outOfNeither();
        test.outOfNoSuchFace();
        test.crossingsBehindGetNumbersLess();
        test.ringsAllOfWhosePassesGo();
        test.slideOfATriangle();
        test.slideOfNone();
        test.slideOfNoSuchFace();
        test.slideOverTheBeginning();
        test.kinkOnEveryEdge();
        test.kinkOverOrUnderFirst();
        test.kinkOnNoSuchEdge();
        test.kinkOnRingsWithoutEdges();
        test.kinkUpToEight();
        test.loosenNothing();
        test.loosenAll();
        test.loosenTheFirstFace();
        test.loosenTheFirstPair();
        test.loosenKinksAheadOfPairs();
        test.loosenIsOneThing();
        test.mirrorWithoutRings();
        test.mirrorOfLooseRings();
        test.mirrorAtAllCrossings();
        test.roundOfNoSuchRing();
        test.roundOfALooseRing();
        test.roundKeepsTheFirstPass();
        test.roundTurnsSignsWithAnotherRing();
        test.switchesOfNoSuchCrossing();
        test.switchesTheFirstAndTheLast();
        test.sumOfNoSuchSlot();
        test.sumWithoutRings();
        test.sumUpToEightCrossings();
        test.sumUpToFourRings();
        test.sumWithLooseRings();
        test.sumComesBehindAll();
        test.sumWithItself();
        test.undoOfNothing();
        test.undoOfEachThing();
        test.undoOfForty();
        test.undoGoesRound();
        test.refusalsAreNoThings();
        test.readAndRestoreLeaveNothingToUndo();
        test.holdInNoSuchSlot();
        test.holdAgain();
        test.holdWithoutRings();
        test.restoreOfNoSuchSlot();
        test.restoreOfNothing();
        test.restoreStaysThere();
        test.check.end();
    }

    // ---- promise 6: out ----

    private void outOfTheFirstAndTheLastFace() {
        KnotRows x = Check.of(APART);
        check.due("faces", x.count(3), 6);
        check.due("out of the last", x.out(5), 1);
        check.told(x, "ring over 0 - under 0 - ; ring ;");
        check.anew("the last", x);
        x = Check.of("ring over 0+under 0+;");
        check.due("out of the first", x.out(0), 0);
        check.told(x, "ring ;");
        check.anew("the first", x);
        x.undo();
        check.due("out of the last", x.out(2), 0);
        check.told(x, "ring ;");
    }

    private void outTellsHowManyAreLeft() {
        KnotRows x = Check.of("ring over 0+under 0+over 1+under 1+over 2+under 2+over 3+under 3+"
            + "over 4+under 4+over 5+under 5+over 6+under 6+over 7+under 7+;");
        for (int left = 7; left >= 0; left--) {
            check.due("out", x.out(0), left);
            check.due("left", x.count(1), left);
            check.due("things", x.count(15), 8 - left);
            check.anew("out of a kink", x);
        }
        check.refused("out of none", x, Check.seen(x), x.out(0), NONE);
    }

    private void outOfAPair() {
        KnotRows x = Check.of("ring over 0+over 1-;ring under 0+under 1-;");
        for (int face = 0; face < 4; face++) {
            check.due("out", x.out(face), 0);
            check.told(x, "ring ; ring ;");
            check.anew("out of a pair", x);
            check.due("undo", x.undo(), true);
        }
        check.refused("out of a fifth", x, Check.seen(x), x.out(4), NONE);
    }

    /** The sign of the one between goes along with its number. */
    private void outOfAPairWithOneBetween() {
        KnotRows x = Check.of("braid 4 -1 3 1;");
        check.told(x, "ring under 0 - under 2 + ; ring over 0 - over 2 + ; ring over 1 + under 1 + ;");
        int pair = 0;
        while (pair < x.count(3) && x.face(pair, 1) != 2) {
            pair++;
        }
        check.due("out of 0 and 2", x.out(pair), 1);
        check.told(x, "ring ; ring ; ring over 0 + under 0 + ;");
        check.anew("out of 0 and 2", x);
    }

    private void outOfNeither() {
        KnotRows x = Check.of(KINKS);
        check.refused("five corners", x, Check.seen(x), x.out(1), NONE);
        check.refused("four corners", x, Check.seen(x), x.out(2), NONE);
        x = Check.of("ring over 0+under 0+;");
        check.refused("two corners at one crossing", x, Check.seen(x), x.out(1), NONE);
        x = Check.of(HOPF);
        for (int face = 0; face < 4; face++) {
            check.refused("over and under in turns", x, Check.seen(x), x.out(face), NONE);
        }
        x = Check.of("braid 3 1 2 1;");
        check.refused("a triangle", x, Check.seen(x), x.out(1), NONE);
    }

    private void outOfNoSuchFace() {
        KnotRows x = Check.of(APART);
        for (int face : Check.outside(6)) {
            check.refused("out(" + face + ")", x, Check.seen(x), x.out(face), NONE);
        }
        x = Check.of("ring;");
        for (int face : Check.outside(0)) {
            check.refused("out(" + face + ") of a loose ring", x, Check.seen(x), x.out(face), NONE);
        }
    }

    private void crossingsBehindGetNumbersLess() {
        KnotRows x = Check.of(KINKS);
        check.due("out of 0", x.out(0), 2);
        check.told(x, "ring over 0 - under 0 - over 1 + under 1 + ;");
        x.undo();
        check.due("out of 1", x.out(3), 2);
        check.told(x, "ring over 0 + under 0 + over 1 + under 1 + ;");
        check.anew("the one between", x);
        x.undo();
        check.due("out of 2", x.out(4), 2);
        check.told(x, "ring over 0 + under 0 + over 1 - under 1 - ;");
        x.undo();
        check.due("out of 0", x.out(0), 2);
        check.due("out of what was 1", x.out(1), 1);
        check.told(x, "ring over 0 + under 0 + ;");
    }

    private void ringsAllOfWhosePassesGo() {
        KnotRows x = Check.of("ring;ring over 0+under 0+;ring over 1-under 1-;");
        check.due("out", x.out(0), 1);
        check.told(x, "ring ; ring ; ring over 0 - under 0 - ;");
        check.due("loose", x.count(9), 2);
        check.due("out", x.out(1), 0);
        check.due("loose", x.count(9), 3);
    }

    // ---- promise 7: slide ----

    private void slideOfATriangle() {
        KnotRows x = Check.of("braid 3 1 2 1;");
        check.done("slide", x, 1, x.slide(1));
        check.told(x, "ring over 1 + over 0 + under 2 + under 1 + ; ring over 2 + under 0 + ;");
        check.due("undo", x.undo(), true);
        check.told(x, "ring over 0 + over 1 + under 1 + under 2 + ; ring under 0 + over 2 + ;");
        check.anew("undone", x);
    }

    private void slideOfNone() {
        KnotRows x = Check.of("braid 3 1 2 1;");
        for (int face = 0; face < 5; face++) {
            if (face != 1) {
                check.refused("slide(" + face + ")", x, Check.seen(x), x.slide(face));
            }
        }
        x = Check.of("ring over 0+over 1+under 1+under 0+;");
        for (int face = 0; face < 4; face++) {
            check.refused("three corners at two crossings, kinks", x, Check.seen(x), x.slide(face));
        }
        x = Check.of("ring over 0+over 1-;ring under 0+under 1-;");
        for (int face = 0; face < 4; face++) {
            check.refused("a pair", x, Check.seen(x), x.slide(face));
        }
        x = Check.of(TREFOIL);
        for (int face = 0; face < 5; face++) {
            check.refused("a trefoil", x, Check.seen(x), x.slide(face));
        }
    }

    private void slideOfNoSuchFace() {
        KnotRows x = Check.of("braid 3 1 2 1;");
        for (int face : Check.outside(5)) {
            check.refused("slide(" + face + ")", x, Check.seen(x), x.slide(face));
        }
        x = Check.of("ring;");
        check.refused("slide of a loose ring", x, Check.seen(x), x.slide(0));
    }

    /** One of its EDGES goes from a RING's last PASS to its first one. */
    private void slideOverTheBeginning() {
        KnotRows x = Check.of("ring over 1+under 1+under 2+over 0+;ring under 0+over 2+;");
        check.told(x, "ring over 0 + under 0 + under 1 + over 2 + ; ring under 2 + over 1 + ;");
        int slid = 0;
        for (int face = 0; face < 5; face++) {
            if (x.face(face, 1) == 3) {
                check.done("slide", x, 1, x.slide(face));
                slid++;
            }
        }
        check.due("triangles", slid, 1);
        check.told(x, "ring over 2 + under 1 + under 0 + over 0 + ; ring over 1 + under 2 + ;");
    }

    // ---- promise 8: kink ----

    private void kinkOnEveryEdge() {
        String[] due = {"ring over 0 + over 2 - under 2 - under 1 + ; ring under 0 + over 1 + ;",
            "ring over 0 + under 1 + over 2 - under 2 - ; ring under 0 + over 1 + ;",
            "ring over 0 + under 1 + ; ring under 0 + over 2 - under 2 - over 1 + ;",
            "ring over 0 + under 1 + ; ring under 0 + over 1 + over 2 - under 2 - ;"};
        KnotRows x = Check.of(HOPF);
        for (int edge = 0; edge < 4; edge++) {
            check.done("kink(" + edge + ")", x, 1, x.kink(edge, true, false));
            check.told(x, due[edge]);
            check.due("undo", x.undo(), true);
            check.told(x, HOPF);
        }
    }

    private void kinkOverOrUnderFirst() {
        KnotRows x = Check.of("ring over 0+under 0+;");
        check.done("over, plus", x, 1, x.kink(0, true, true));
        check.told(x, "ring over 0 + over 1 + under 1 + under 0 + ;");
        x.undo();
        check.done("over, minus", x, 1, x.kink(0, true, false));
        check.told(x, "ring over 0 + over 1 - under 1 - under 0 + ;");
        x.undo();
        check.done("under, plus", x, 1, x.kink(0, false, true));
        check.told(x, "ring over 0 + under 1 + over 1 + under 0 + ;");
        x.undo();
        check.done("under, minus", x, 1, x.kink(0, false, false));
        check.told(x, "ring over 0 + under 1 - over 1 - under 0 + ;");
    }

    private void kinkOnNoSuchEdge() {
        KnotRows x = Check.of(HOPF);
        for (int edge : Check.outside(4)) {
            check.refused("kink(" + edge + ")", x, Check.seen(x), x.kink(edge, true, true));
        }
    }

    private void kinkOnRingsWithoutEdges() {
        KnotRows x = Check.of("ring;ring;");
        for (int edge : Check.outside(0)) {
            check.refused("kink(" + edge + ") of loose rings", x, Check.seen(x), x.kink(edge, true, true));
        }
        x = Check.of("ring;ring over 0+under 0+;ring;ring under 1-over 1-;");
        check.done("behind a loose ring", x, 1, x.kink(2, true, true));
        check.told(x, "ring ; ring over 0 + under 0 + ; ring ; ring under 1 - over 2 + under 2 + over 1 - ;");
    }

    private void kinkUpToEight() {
        KnotRows x = Check.of("ring over 0+under 0+over 1+under 1+over 2+under 2+over 3+under 3+over 4+under 4+over 5+under 5+over 6+under 6+;");
        check.done("an eighth", x, 1, x.kink(13, false, true));
        check.due("crossings", x.count(1), 8);
        check.due("its passes", x.ring(0, 14) * 100 + x.ring(0, 15), 29 * 100 + 31);
        for (int edge = 0; edge < 16; edge++) {
            check.refused("a ninth on " + edge, x, Check.seen(x), x.kink(edge, true, true));
        }
        check.due("one goes", x.out(0), 7);
        check.done("and comes again", x, 3, x.kink(0, true, true));
    }

    // ---- promise 9: loosen ----

    private void loosenNothing() {
        for (String text : new String[] {"ring;", "ring;ring;ring;ring;", TREFOIL, HOPF, "braid 3 2 1 2 1;", "braid 3 1 -2 1 -2;"}) {
            KnotRows x = Check.of(text);
            check.refused("loosen " + text, x, Check.seen(x), x.loosen(), 0);
        }
        KnotRows x = new KnotRows();
        check.refused("loosen nothing", x, Check.seen(x), x.loosen(), 0);
    }

    private void loosenAll() {
        KnotRows x = Check.of("ring over 0+under 0+over 1-under 1-over 2+under 2+over 3+under 3+"
            + "over 4-under 4-over 5+under 5+over 6+under 6+over 7+under 7+;ring;");
        check.due("eight kinks", x.loosen(), 8);
        check.told(x, "ring ; ring ;");
        check.due("things", x.count(15), 1);
        check.anew("eight kinks", x);
        check.refused("loosen again", x, Check.seen(x), x.loosen(), 0);
        x = Check.of("braid 2 1 -1 1 -1 1 -1 1 -1;");
        check.due("four pairs", x.loosen(), 8);
        check.told(x, "ring ; ring ;");
        check.anew("four pairs", x);
        x = Check.of("braid 2 1;");
        check.due("one kink", x.loosen(), 1);
        check.told(x, "ring ;");
    }

    private void loosenTheFirstFace() {
        KnotRows x = Check.of("ring over 1+under 1+under 2+over 0+;ring under 0+over 2+;");
        check.row("only a kink", new long[] {x.face(0, 1), x.count(10), x.count(11)}, 1, 1, 0);
        check.due("it goes", x.loosen(), 1);
        check.told(x, "ring under 0 + over 1 + ; ring under 1 + over 0 + ;");
        check.anew("only a kink", x);
        x = Check.of("ring over 2+over 0-under 1+over 3+under 0-under 2+under 3+over 1+;");
        check.row("only a pair", new long[] {x.face(0, 1), x.count(10), x.count(11)}, 2, 0, 1);
        check.due("it goes, and all that is kinked then", x.loosen(), 4);
        check.told(x, "ring ;");
    }

    /** Crossings 0 and 1 go, not 3 and 0: then the first RING would begin under. */
    private void loosenTheFirstPair() {
        KnotRows x = Check.of("braid 2 -1 1 1 1;");
        check.told(x, "ring under 0 - under 1 + over 2 + under 3 + ; ring over 0 - over 1 + under 2 + over 3 + ;");
        check.due("pairs", x.count(11), 2);
        check.due("one goes", x.loosen(), 2);
        check.told(x, HOPF);
        check.anew("the first pair", x);
    }

    /** With the pair of the first and the last crossing ahead of the kink the first RING would begin under. */
    private void loosenKinksAheadOfPairs() {
        KnotRows x = Check.of("braid 3 -1 2 1 1 1;");
        check.row("a kink, a pair", new long[] {x.count(10), x.count(11)}, 1, 1);
        check.due("three go", x.loosen(), 3);
        check.told(x, HOPF);
        check.anew("a kink, then a pair", x);
    }

    private void loosenIsOneThing() {
        KnotRows x = Check.of(KINKS);
        check.due("three kinks", x.loosen(), 3);
        check.due("things", x.count(15), 1);
        check.due("undo", x.undo(), true);
        check.told(x, KINKS);
        check.anew("all come back", x);
        check.due("undo", x.undo(), false);
    }

    // ---- promise 10: mirror ----

    private void mirrorWithoutRings() {
        KnotRows x = Check.of("");
        check.refused("mirror", x, Check.seen(x), x.mirror());
    }

    private void mirrorOfLooseRings() {
        KnotRows x = Check.of("ring;");
        check.done("mirror", x, 1, x.mirror());
        check.told(x, "ring ;");
    }

    private void mirrorAtAllCrossings() {
        KnotRows x = Check.of("braid 2 1 1 1 1 1 1 1 -1;");
        check.done("mirror", x, 1, x.mirror());
        check.told(x, "ring under 0 - over 1 - under 2 - over 3 - under 4 - over 5 - under 6 - under 7 + ; "
            + "ring over 0 - under 1 - over 2 - under 3 - over 4 - under 5 - over 6 - over 7 + ;");
        check.done("mirror again", x, 2, x.mirror());
        check.told(x, Check.told(Check.of("braid 2 1 1 1 1 1 1 1 -1;")));
    }

    // ---- promise 11: round ----

    private void roundOfNoSuchRing() {
        KnotRows x = Check.of(HOPF);
        for (int ring : Check.outside(2)) {
            check.refused("round(" + ring + ")", x, Check.seen(x), x.round(ring));
        }
        x = Check.of("ring;ring;ring;ring;");
        check.refused("round(4)", x, Check.seen(x), x.round(4));
        check.done("round(3)", x, 1, x.round(3));
    }

    private void roundOfALooseRing() {
        KnotRows x = Check.of("ring;ring over 0+under 0+;");
        check.done("round(0)", x, 1, x.round(0));
        check.told(x, "ring ; ring over 0 + under 0 + ;");
    }

    private void roundKeepsTheFirstPass() {
        KnotRows x = Check.of(KINKS);
        check.done("round", x, 1, x.round(0));
        check.told(x, "ring over 0 + under 2 + over 2 + under 1 - over 1 - under 0 + ;");
        check.done("round again", x, 2, x.round(0));
        check.told(x, KINKS);
        x = Check.of("ring under 0+over 0+;");
        check.done("two passes", x, 1, x.round(0));
        check.told(x, "ring under 0 + over 0 + ;");
        x = Check.of(TREFOIL);
        check.done("six passes", x, 1, x.round(0));
        check.told(x, "ring over 0 + under 2 + over 1 + under 0 + over 2 + under 1 + ;");
    }

    private void roundTurnsSignsWithAnotherRing() {
        String text = "ring over 5 - under 5 - over 7 + under 3 + ; ring ; ring under 7 + over 3 + ;";
        KnotRows x = Check.of(text);
        check.done("round(2)", x, 1, x.round(2));
        check.told(x, "ring over 0 - under 0 - over 1 - under 2 - ; ring ; ring under 1 - over 2 - ;");
        x.undo();
        check.done("round(0)", x, 1, x.round(0));
        check.told(x, "ring over 0 - under 2 - over 1 - under 0 - ; ring ; ring under 1 - over 2 - ;");
        check.done("both", x, 2, x.round(2));
        check.told(x, "ring over 0 - under 2 + over 1 + under 0 - ; ring ; ring under 1 + over 2 + ;");
    }

    // ---- promise 12: switches ----

    private void switchesOfNoSuchCrossing() {
        KnotRows x = Check.of(TREFOIL);
        for (int crossing : Check.outside(3)) {
            check.refused("switches(" + crossing + ")", x, Check.seen(x), x.switches(crossing));
        }
        x = Check.of("ring;");
        check.refused("switches(0) of a loose ring", x, Check.seen(x), x.switches(0));
        x = Check.of("braid 2 1 1 1 1 1 1 1 1;");
        check.refused("switches(8)", x, Check.seen(x), x.switches(8));
        check.refused("switches(32)", x, Check.seen(x), x.switches(32));
    }

    private void switchesTheFirstAndTheLast() {
        KnotRows x = Check.of(TREFOIL);
        check.done("switches(0)", x, 1, x.switches(0));
        check.told(x, "ring under 0 - under 1 + over 2 + over 0 - over 1 + under 2 + ;");
        check.done("switches(2)", x, 2, x.switches(2));
        check.told(x, "ring under 0 - under 1 + under 2 - over 0 - over 1 + over 2 - ;");
        check.done("switches(0) again", x, 3, x.switches(0));
        check.told(x, "ring over 0 + under 1 + under 2 - under 0 + over 1 + over 2 - ;");
        x = Check.of("braid 2 1 1 1 1 1 1 1 1;");
        check.done("switches(7)", x, 1, x.switches(7));
        check.due("its sign", x.crossing(7, 0), -1);
        check.due("writhe", x.count(5), 6);
    }

    // ---- promise 13: sum ----

    private void sumOfNoSuchSlot() {
        KnotRows x = Check.of("braid 2 1;");
        for (int slot = 0; slot < 3; slot++) {
            check.refused("sum(" + slot + ") of an empty slot", x, Check.seen(x), x.sum(slot));
        }
        x.hold(0);
        x.hold(1);
        x.hold(2);
        for (int slot : Check.outside(3)) {
            check.refused("sum(" + slot + ")", x, Check.seen(x), x.sum(slot));
        }
        for (int slot = 0; slot < 3; slot++) {
            check.done("sum(" + slot + ")", x, slot + 1, x.sum(slot));
        }
        check.due("crossings", x.count(1), 4);
    }

    private void sumWithoutRings() {
        KnotRows x = new KnotRows();
        x.hold(0);
        check.refused("nothing with nothing", x, Check.seen(x), x.sum(0));
    }

    private void sumUpToEightCrossings() {
        KnotRows x = Check.of("braid 2 1 1 1 1 1;");
        x.hold(0);
        check.refused("five and five", x, Check.seen(x), x.sum(0));
        x.switches(0);
        check.due("two went", x.loosen(), 2);
        x.hold(1);
        check.done("three and five", x, 3, x.sum(0));
        check.due("crossings", x.count(1), 8);
        check.refused("eight and three", x, Check.seen(x), x.sum(1));
        x.restore(0);
        check.done("five and three", x, 1, x.sum(1));
        check.due("crossings", x.count(1), 8);
        x.restore(1);
        x.kink(0, true, true);
        check.refused("four and five", x, Check.seen(x), x.sum(0));
        x.hold(2);
        check.done("four and four", x, 2, x.sum(2));
        x.restore(0);
        x.switches(0);
        x.switches(1);
        check.due("all go", x.loosen(), 5);
        x.hold(1);
        x.restore(0);
        x.kink(0, true, true);
        x.kink(0, true, true);
        x.kink(0, true, true);
        check.done("eight and none", x, 4, x.sum(1));
        check.due("crossings", x.count(1), 8);
    }

    private void sumUpToFourRings() {
        KnotRows x = Check.of("ring;ring;");
        x.hold(0);
        check.done("two and two", x, 1, x.sum(0));
        check.due("rings", x.count(0), 3);
        x.hold(1);
        check.refused("three and three", x, Check.seen(x), x.sum(1));
        check.done("three and two", x, 2, x.sum(0));
        check.due("rings", x.count(0), 4);
        check.refused("four and two", x, Check.seen(x), x.sum(0));
        x.hold(2);
        x.restore(0);
        check.refused("two and four", x, Check.seen(x), x.sum(2));
        check.done("two and three", x, 1, x.sum(1));
        check.due("rings", x.count(0), 4);
        x = Check.of("ring;");
        x.hold(0);
        check.done("one and one", x, 1, x.sum(0));
        check.due("rings", x.count(0), 1);
    }

    private void sumWithLooseRings() {
        KnotRows x = Check.of(APART);
        x.hold(0);
        check.due("the first ring is loose", x.out(1), 1);
        check.told(x, "ring ; ring over 0 + under 0 + ;");
        x.hold(1);
        check.done("with a full one", x, 2, x.sum(0));
        check.told(x, "ring over 1 - under 1 - ; ring over 0 + under 0 + ; ring over 2 + under 2 + ;");
        x.restore(0);
        check.done("a full one with it", x, 1, x.sum(1));
        check.told(x, "ring over 0 - under 0 - ; ring over 1 + under 1 + ; ring over 2 + under 2 + ;");
        x.restore(1);
        check.done("both", x, 1, x.sum(1));
        check.told(x, "ring ; ring over 0 + under 0 + ; ring over 1 + under 1 + ;");
    }

    private void sumComesBehindAll() {
        KnotRows x = Check.of(APART);
        x.hold(0);
        check.due("the other ring is loose", x.out(3), 1);
        check.told(x, "ring over 0 - under 0 - ; ring ;");
        check.done("sum", x, 2, x.sum(0));
        check.told(x, "ring over 0 - under 0 - over 1 - under 1 - ; ring ; ring over 2 + under 2 + ;");
        check.due("the slot stays", x.restore(0), true);
        check.told(x, APART);
    }

    private void sumWithItself() {
        KnotRows x = Check.of(HOPF);
        x.hold(2);
        check.done("sum", x, 1, x.sum(2));
        check.told(x, "ring over 0 + under 1 + over 2 + under 3 + ; ring under 0 + over 1 + ; ring under 2 + over 3 + ;");
        check.done("sum again", x, 2, x.sum(2));
        check.told(x, "ring over 0 + under 1 + over 2 + under 3 + over 4 + under 5 + ; ring under 0 + over 1 + ; "
            + "ring under 2 + over 3 + ; ring under 4 + over 5 + ;");
        check.refused("a fifth ring", x, Check.seen(x), x.sum(2));
    }

    // ---- promise 14: undo ----

    private void undoOfNothing() {
        KnotRows x = new KnotRows();
        check.refused("nothing done", x, Check.seen(x), x.undo());
        x = Check.of(TREFOIL);
        check.refused("a text is nothing done", x, Check.seen(x), x.undo());
        x.mirror();
        check.due("undo", x.undo(), true);
        check.refused("undo twice", x, Check.seen(x), x.undo());
    }

    private void undoOfEachThing() {
        KnotRows x = Check.of("braid 3 1 2 1;");
        x.hold(0);
        String[] seen = new String[10];
        int things = 0;
        seen[things] = Check.told(x);
        check.done("slide", x, ++things, x.slide(1));
        seen[things] = Check.told(x);
        check.done("kink", x, ++things, x.kink(5, false, false));
        seen[things] = Check.told(x);
        check.done("sum", x, ++things, x.sum(0));
        seen[things] = Check.told(x);
        check.done("mirror", x, ++things, x.mirror());
        seen[things] = Check.told(x);
        check.done("round", x, ++things, x.round(2));
        seen[things] = Check.told(x);
        check.done("switches", x, ++things, x.switches(4));
        seen[things] = Check.told(x);
        int face = 0;
        while (x.face(face, 1) != 1) {
            face++;
        }
        check.done("out", x, ++things, x.out(face) == 6);
        seen[things] = Check.told(x);
        check.done("loosen", x, ++things, x.loosen() > 0);
        for (int left = things - 1; left >= 0; left--) {
            check.done("undo", x, left, x.undo());
            check.told(x, seen[left]);
        }
        check.due("undo", x.undo(), false);
    }

    private void undoOfForty() {
        KnotRows x = Check.of("braid 2 1 1 1 1 1 1;");
        for (int i = 0; i < 40; i++) {
            check.due("switch", x.switches(i % 6), true);
        }
        check.due("forty things", x.count(15), 40);
        String forty = Check.told(x);
        check.due("a thing more", x.switches(0), true);
        check.due("forty things still", x.count(15), 40);
        check.due("undo", x.undo(), true);
        check.told(x, forty);
        for (int left = 38; left >= 0; left--) {
            check.due("undo", x.undo(), true);
            check.due("things", x.count(15), left);
        }
        check.refused("the first thing is not undone", x, Check.seen(x), x.undo());
        check.due("it stands", x.crossing(0, 0), -1);
        check.due("it stands alone", x.count(5), 4);
    }

    private void undoGoesRound() {
        KnotRows x = Check.of("braid 2 1 1 1 1 1 1 1 1;");
        int expected = 0;
        int switched = 0;
        for (int turn = 0; turn < 7; turn++) {
            for (int i = 0; i < 30; i++) {
                x.switches(i % 8);
                switched ^= 1 << i % 8;
            }
            expected = Math.min(expected + 30, 40);
            check.due("things", x.count(15), expected);
            for (int i = 29; i >= 10; i--) {
                check.due("undo", x.undo(), true);
                switched ^= 1 << i % 8;
            }
            expected -= 20;
            check.due("things", x.count(15), expected);
            for (int c = 0; c < 8; c++) {
                check.due("sign of " + c, x.crossing(c, 0), (switched >> c & 1) == 1 ? -1 : 1);
            }
        }
    }

    private void refusalsAreNoThings() {
        KnotRows x = Check.of("ring over 0+under 0+;");
        x.mirror();
        x.out(7);
        x.slide(0);
        x.kink(2, true, true);
        x.round(1);
        x.switches(1);
        x.sum(0);
        x.hold(0);
        x.feed(0, 0, 0, 0, 0);
        x.read();
        x.back(0);
        x.freed(1);
        x.looser(3);
        x.alike(0, 1);
        check.due("things", x.count(15), 1);
        check.due("undo", x.undo(), true);
        check.told(x, "ring over 0 + under 0 + ;");
    }

    private void readAndRestoreLeaveNothingToUndo() {
        KnotRows x = Check.of(TREFOIL);
        x.mirror();
        check.due("read", Check.read(x, HOPF), 0);
        check.refused("undo behind a text", x, Check.seen(x), x.undo());
        x.hold(1);
        x.mirror();
        check.due("restore", x.restore(1), true);
        check.refused("undo behind restore", x, Check.seen(x), x.undo());
    }

    // ---- promise 25: hold ----

    private void holdInNoSuchSlot() {
        KnotRows x = Check.of(HOPF);
        for (int slot : Check.outside(3)) {
            check.refused("hold(" + slot + ")", x, Check.seen(x), x.hold(slot));
        }
        for (int slot = 0; slot < 3; slot++) {
            check.due("hold(" + slot + ")", x.hold(slot), true);
            check.due("slots", x.count(16), slot + 1);
        }
        check.due("things", x.count(15), 0);
    }

    private void holdAgain() {
        KnotRows x = Check.of(HOPF);
        x.hold(1);
        x.kink(0, true, true);
        check.due("hold in a full slot", x.hold(1), true);
        check.due("slots", x.count(16), 1);
        check.due("things", x.count(15), 1);
        String told = Check.told(x);
        x.mirror();
        check.due("restore", x.restore(1), true);
        check.told(x, told);
    }

    private void holdWithoutRings() {
        KnotRows x = new KnotRows();
        check.due("hold", x.hold(2), true);
        check.due("slots", x.count(16), 1);
        check.due("alike", x.alike(2, 2), 1);
    }

    // ---- promise 26: restore ----

    private void restoreOfNoSuchSlot() {
        KnotRows x = Check.of(HOPF);
        x.hold(0);
        x.hold(1);
        x.hold(2);
        x.mirror();
        for (int slot : Check.outside(3)) {
            check.refused("restore(" + slot + ")", x, Check.seen(x), x.restore(slot));
        }
    }

    private void restoreOfNothing() {
        KnotRows x = Check.of(HOPF);
        x.hold(1);
        x.mirror();
        check.refused("restore(0)", x, Check.seen(x), x.restore(0));
        check.refused("restore(2)", x, Check.seen(x), x.restore(2));
        check.due("restore(1)", x.restore(1), true);
    }

    private void restoreStaysThere() {
        KnotRows x = Check.of(HOPF);
        x.hold(0);
        for (int turn = 0; turn < 3; turn++) {
            x.kink(turn, true, false);
            x.mirror();
            check.due("restore", x.restore(0), true);
            check.told(x, HOPF);
            check.anew("restore", x);
            check.due("things", x.count(15), 0);
            check.due("slots", x.count(16), 1);
        }
        check.due("read", x.read(), 0);
        check.due("no RINGS", x.count(0), 0);
        check.due("a text empties the slots", x.restore(0), false);
    }
}
