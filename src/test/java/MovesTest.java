/** What is done by hand, and undone: promises 6 to 14. */
public final class MovesTest {
    private static final String TREFOIL = "ring over 0 + under 1 + over 2 + under 0 + over 1 + under 2 + ;";
    private static final String HOPF = "ring over 0 + under 1 + ; ring under 0 + over 1 + ;";
    private static final int NONE = KnotRows.NONE;
    private static final int[] FAR = {-1, -2, 100, Integer.MIN_VALUE, Integer.MAX_VALUE};

    private final Check check = new Check("moves");

    public static void main(String[] args) {
        MovesTest test = new MovesTest();
        test.outOfKinks();
        test.outOfPairs();
        test.slides();
        test.slidesOverTheBeginning();
        test.kinks();
        test.kinkLimits();
        test.loosens();
        test.loosensInOrder();
        test.mirrors();
        test.rounds();
        test.switches();
        test.sums();
        test.sumsWithLooseRings();
        test.sumLimits();
        test.undoes();
        test.undoesForty();
        test.check.end();
    }

    private int faceOfKind(KnotRows x, int kind) {
        for (int face = 0; face < x.face(NONE, 0); face++) {
            if (x.face(face, 1) == kind) {
                return face;
            }
        }
        return NONE;
    }

    private void outOfKinks() {
        KnotRows x = Check.of("braid 2 1;");
        check.due("neither", x.out(1), NONE);
        check.due("not done", x.count(15), 0);
        check.due("first kink", x.out(0), 0);
        check.told(x, "ring ;");
        check.due("done", x.count(15), 1);
        x.undo();
        check.told(x, "ring over 0 + under 0 + ;");
        for (int face : FAR) {
            check.due("out(" + face + ")", x.out(face), NONE);
        }
        check.due("out(3)", x.out(3), NONE);
        check.due("other kink", x.out(2), 0);
        check.due("out of none", x.out(0), NONE);
        x = Check.of("ring over 7+under 3+;ring;ring over 50-under 50-under 7+over 3+;");
        check.due("crossings", x.count(1), 3);
        check.due("kink goes", x.out(faceOfKind(x, 1)), 2);
        check.told(x, "ring over 0 + under 1 + ; ring ; ring under 0 + over 1 + ;");
        x = Check.of("ring over 7 + over 50 - under 50 - under 3 + over 9 + under 7 + over 3 + under 9 + ;");
        check.due("a kink between", x.out(faceOfKind(x, 1)), 3);
        check.told(x, TREFOIL);
        check.due("no kink in a trefoil", x.out(0), NONE);
    }

    private void outOfPairs() {
        KnotRows x = Check.of("ring over 0+over 1-;ring under 0+under 1-;");
        for (int face = 0; face < 4; face++) {
            check.due("a pair", x.face(face, 1), 2);
            check.due("out(" + face + ")", x.out(face), 0);
            check.told(x, "ring ; ring ;");
            check.due("undo", x.undo(), true);
        }
        x = Check.of(HOPF);
        for (int face = 0; face < 4; face++) {
            check.due("no pair of a Hopf link", x.out(face), NONE);
        }
        x = Check.of("braid 2 1 -1 1 1 1;");
        check.due("pairs", x.count(11), 2);
        check.due("the pair goes", x.out(faceOfKind(x, 2)), 3);
        check.told(x, "ring over 0 + under 1 + over 2 + under 0 + over 1 + under 2 + ;");
        check.due("nothing was done else", x.count(15), 1);
    }

    private void slides() {
        KnotRows x = Check.of("braid 3 1 2 1;");
        check.told(x, "ring over 0 + over 1 + under 1 + under 2 + ; ring under 0 + over 2 + ;");
        int face = faceOfKind(x, 3);
        check.due("one triangle", x.count(12), 1);
        for (int other = 0; other < x.count(3); other++) {
            if (other != face) {
                check.due("slide(" + other + ")", x.slide(other), false);
            }
        }
        for (int far : FAR) {
            check.due("slide(" + far + ")", x.slide(far), false);
        }
        check.due("slide(faces)", x.slide(x.count(3)), false);
        check.due("not done", x.count(15), 0);
        check.due("slide", x.slide(face), true);
        check.told(x, "ring over 1 + over 0 + under 2 + under 1 + ; ring over 2 + under 0 + ;");
        check.due("done", x.count(15), 1);
        check.due("drawn", x.count(3), x.count(1) + 2);
        check.due("slide there and back", x.slide(faceOfKind(x, 3)), true);
        check.told(x, "ring over 0 + over 1 + under 1 + under 2 + ; ring under 0 + over 2 + ;");
        x = Check.of("braid 3 1 -2 1;");
        check.due("no triangle to slide", x.count(12), 0);
        for (int any = 0; any < x.count(3); any++) {
            check.due("slide of none", x.slide(any), false);
        }
    }

    /** The last PASS of a RING and its first one exchange places, too. */
    private void slidesOverTheBeginning() {
        KnotRows x = Check.of("ring over 1 + under 1 + under 2 + over 0 +; ring under 0 + over 2 +;");
        int face = faceOfKind(x, 3);
        check.due("a triangle", face != NONE, true);
        check.due("slide", x.slide(face), true);
        check.told(x, "ring over 2 + under 1 + under 0 + over 0 + ; ring over 1 + under 2 + ;");
    }

    private void kinks() {
        KnotRows x = Check.of(HOPF);
        check.due("kink(0)", x.kink(0, true, true), true);
        check.told(x, "ring over 0 + over 2 + under 2 + under 1 + ; ring under 0 + over 1 + ;");
        check.due("kink(3)", x.kink(3, false, false), true);
        check.told(x, "ring over 0 + over 2 + under 2 + under 1 + under 3 - over 3 - ; ring under 0 + over 1 + ;");
        check.due("kink(7)", x.kink(7, false, true), true);
        check.told(x, "ring over 0 + over 2 + under 2 + under 1 + under 3 - over 3 - ; "
            + "ring under 0 + over 1 + under 4 + over 4 + ;");
        check.due("kink(6)", x.kink(6, true, false), true);
        check.told(x, "ring over 0 + over 2 + under 2 + under 1 + under 3 - over 3 - ; "
            + "ring under 0 + over 5 - under 5 - over 1 + under 4 + over 4 + ;");
        check.due("kinks", x.count(10), 4);
        check.due("drawn", x.count(3), x.count(1) + 2);
        check.due("done", x.count(15), 4);
        x = Check.of("ring;ring over 4+under 4+;ring;");
        check.due("kink behind a loose ring", x.kink(0, true, true), true);
        check.told(x, "ring ; ring over 0 + over 1 + under 1 + under 0 + ; ring ;");
    }

    private void kinkLimits() {
        KnotRows x = Check.of("ring;ring;");
        check.due("a loose ring has no edge", x.kink(0, true, true), false);
        x = Check.of("braid 2 1;");
        for (int edge : FAR) {
            check.due("kink(" + edge + ")", x.kink(edge, true, true), false);
        }
        check.due("kink(2)", x.kink(2, true, true), false);
        for (int many = 2; many <= 8; many++) {
            check.due("kink of " + many, x.kink(2 * many - 3, many % 2 == 0, many % 3 == 0), true);
            check.due("crossings", x.count(1), many);
        }
        String told = Check.told(x);
        check.due("a ninth", x.kink(0, true, true), false);
        check.told(x, told);
        check.due("done", x.count(15), 7);
    }

    private void loosens() {
        KnotRows x = Check.of(TREFOIL);
        check.due("loosen nothing", x.loosen(), 0);
        check.due("no thing done", x.count(15), 0);
        x.switches(0);
        check.due("loosen all", x.loosen(), 3);
        check.told(x, "ring ;");
        check.due("one thing more", x.count(15), 2);
        check.due("undo", x.undo(), true);
        check.told(x, "ring under 0 - under 1 + over 2 + over 0 - over 1 + under 2 + ;");
        x = Check.of("braid 4 1 -1 3 2 -2 2 2;");
        check.due("loosen some", x.loosen(), 5);
        check.due("left", x.count(1), 2);
        check.due("winding", x.count(5), 2);
        check.due("loose one", x.count(9), 1);
        x = Check.of("ring;");
        check.due("a loose ring", x.loosen(), 0);
        check.due("no thing done", x.count(15), 0);
    }

    /** A KINK goes ahead of a PAIR, and the first of its kind ahead of others: told by what stays. */
    private void loosensInOrder() {
        KnotRows x = Check.of("braid 2 1 1 -1;");
        check.due("kinks", x.count(10), 0);
        check.due("pairs", x.count(11), 2);
        check.due("loosen", x.loosen(), 3);
        check.told(x, "ring ;");
        x = Check.of("braid 2 1 -1 1 1;");
        check.due("loosen", x.loosen(), 2);
        check.told(x, "ring over 0 + under 1 + ; ring under 0 + over 1 + ;");
        x = Check.of("braid 2 1 -1 1 1 1;");
        KnotRows y = Check.of("braid 2 1 -1 1 1 1;");
        check.due("loosen", x.loosen(), 2);
        y.out(faceOfKind(y, 2));
        check.told(x, Check.told(y));
    }

    private void mirrors() {
        KnotRows x = Check.of(TREFOIL);
        check.due("mirror", x.mirror(), true);
        check.told(x, "ring under 0 - over 1 - under 2 - over 0 - under 1 - over 2 - ;");
        check.due("drawn", x.count(3), 5);
        check.due("done", x.count(15), 1);
        x = Check.of("ring;");
        check.due("mirror of a loose ring", x.mirror(), true);
        check.due("done", x.count(15), 1);
        check.due("mirror of nothing", new KnotRows().mirror(), false);
    }

    private void rounds() {
        KnotRows x = Check.of(HOPF);
        check.due("round(1)", x.round(1), true);
        check.told(x, "ring over 0 - under 1 - ; ring under 0 - over 1 - ;");
        check.due("round(0)", x.round(0), true);
        check.told(x, HOPF);
        x = Check.of(TREFOIL);
        check.due("round", x.round(0), true);
        check.told(x, "ring over 0 + under 2 + over 1 + under 0 + over 2 + under 1 + ;");
        check.due("done", x.count(15), 1);
        check.due("drawn", x.count(3), 5);
        for (int ring : FAR) {
            check.due("round(" + ring + ")", x.round(ring), false);
        }
        check.due("round(1)", x.round(1), false);
        check.due("not done", x.count(15), 1);
        x = Check.of("ring over 5-under 5-over 7+under 3+;ring;ring under 7+over 3+;");
        check.due("round a loose one", x.round(1), true);
        check.due("round a kinked one", x.round(0), true);
        check.told(x, "ring over 0 - under 2 - over 1 - under 0 - ; ring ; ring under 1 - over 2 - ;");
    }

    private void switches() {
        KnotRows x = Check.of(TREFOIL);
        check.due("switches(1)", x.switches(1), true);
        check.told(x, "ring over 0 + over 1 - over 2 + under 0 + under 1 - under 2 + ;");
        check.due("drawn", x.count(3), 5);
        for (int crossing : FAR) {
            check.due("switches(" + crossing + ")", x.switches(crossing), false);
        }
        check.due("switches(3)", x.switches(3), false);
        check.due("done", x.count(15), 1);
        check.due("back again", x.switches(1), true);
        check.told(x, TREFOIL);
    }

    private void sums() {
        KnotRows x = Check.of(HOPF);
        x.kink(1, true, false);
        x.hold(1);
        x.undo();
        check.due("sum", x.sum(1), true);
        check.told(x, "ring over 0 + under 1 + over 2 + under 3 + over 4 - under 4 - ; ring under 0 + over 1 + ; "
            + "ring under 2 + over 3 + ;");
        check.due("drawn", x.count(3), 7);
        check.due("one part", x.count(4), 1);
        check.due("done", x.count(15), 1);
        check.due("the slot stays", x.alike(1, 2), 0);
        check.due("undo", x.undo(), true);
        check.told(x, HOPF);
        check.due("an empty slot", x.sum(0), false);
        for (int slot : FAR) {
            check.due("sum(" + slot + ")", x.sum(slot), false);
        }
        check.due("sum(3)", x.sum(3), false);
        check.due("not done", x.count(15), 0);
    }

    private void sumsWithLooseRings() {
        KnotRows x = Check.of("ring;ring over 3-under 3-;");
        x.hold(0);
        check.due("loose with loose", x.sum(0), true);
        check.told(x, "ring ; ring over 0 - under 0 - ; ring over 1 - under 1 - ;");
        check.due("parts", x.count(4), 2);
        x = Check.of("ring;");
        x.hold(2);
        check.due("loose with one", x.sum(2), true);
        check.told(x, "ring ;");
        check.due("done", x.count(15), 1);
        x = new KnotRows();
        x.hold(0);
        check.due("nothing with nothing", x.sum(0), false);
    }

    private void sumLimits() {
        KnotRows x = Check.of("ring;ring;ring;");
        x.hold(0);
        check.due("five rings", x.sum(0), false);
        check.told(x, "ring ; ring ; ring ;");
        x = Check.of("braid 3 1;");
        x.hold(0);
        check.due("three rings", x.sum(0), true);
        check.due("four rings", x.sum(0), true);
        check.due("rings", x.count(0), 4);
        check.due("five rings", x.sum(0), false);
        x = Check.of("braid 2 1 1 1 1;");
        x.hold(0);
        x.kink(0, true, true);
        x.hold(1);
        x.restore(0);
        check.due("nine crossings", x.sum(1), false);
        check.due("eight crossings", x.sum(0), true);
        check.due("crossings", x.count(1), 8);
        check.due("twelve", x.sum(0), false);
        check.due("done", x.count(15), 1);
    }

    private void undoes() {
        KnotRows x = Check.of(TREFOIL);
        check.due("undo nothing", x.undo(), false);
        String[] seen = new String[6];
        seen[0] = Check.told(x);
        x.kink(2, true, false);
        seen[1] = Check.told(x);
        x.switches(3);
        seen[2] = Check.told(x);
        x.round(0);
        seen[3] = Check.told(x);
        x.mirror();
        seen[4] = Check.told(x);
        x.loosen();
        seen[5] = Check.told(x);
        check.due("things", x.count(15), 5);
        x.hold(0);
        for (int i = 4; i >= 0; i--) {
            check.due("undo", x.undo(), true);
            check.told(x, seen[i]);
            check.due("things", x.count(15), i);
        }
        check.due("undo at the end", x.undo(), false);
        check.due("the slot stays", x.count(16), 1);
        check.due("a thing again", x.mirror(), true);
        check.due("things", x.count(15), 1);
        check.due("undo", x.undo(), true);
        check.told(x, TREFOIL);
    }

    private void undoesForty() {
        KnotRows x = Check.of("braid 2 1 1 1;");
        String[] seen = new String[60];
        for (int i = 0; i < 60; i++) {
            seen[i] = Check.told(x);
            check.due("switch", x.switches(i * i % 3), true);
            check.due("things", x.count(15), Math.min(i + 1, 40));
        }
        for (int i = 59; i >= 20; i--) {
            check.due("undo", x.undo(), true);
            check.told(x, seen[i]);
        }
        check.due("no more", x.undo(), false);
        check.told(x, seen[20]);
    }
}
