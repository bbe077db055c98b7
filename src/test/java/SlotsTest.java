/** Slots and what is held in them: promises 24 to 26. */
public final class SlotsTest {
    private static final String TREFOIL = "braid 2 1 1 1;";
    private static final int NONE = KnotRows.NONE;
    private static final int[] FAR = {-1, 3, -2, Integer.MIN_VALUE, Integer.MAX_VALUE};

    private final Check check = new Check("slots");

    public static void main(String[] args) {
        SlotsTest test = new SlotsTest();
        test.holdsAndRestores();
        test.slotsStandAlone();
        test.restoreForgets();
        test.farSlots();
        test.alike();
        test.alikeExchanged();
        test.rowsAlike();
        test.check.end();
    }

    private void holdsAndRestores() {
        KnotRows x = Check.of(TREFOIL);
        String told = Check.told(x);
        check.due("hold", x.hold(0), true);
        check.due("it is no thing done", x.count(15), 0);
        x.switches(2);
        x.loosen();
        check.due("restore", x.restore(0), true);
        check.told(x, told);
        check.due("drawn", x.count(3), 5);
        check.due("coefficient", x.coefficient(-16, true), -1);
        x.mirror();
        check.due("restore again", x.restore(0), true);
        check.told(x, told);
    }

    private void slotsStandAlone() {
        KnotRows x = Check.of("braid 2 1 1;");
        String[] seen = new String[3];
        for (int slot = 0; slot < 3; slot++) {
            x.kink(0, true, true);
            seen[slot] = Check.told(x);
            check.due("hold", x.hold(slot), true);
            check.due("slots", x.count(16), slot + 1);
        }
        for (int slot = 2; slot >= 0; slot--) {
            check.due("restore", x.restore(slot), true);
            check.told(x, seen[slot]);
            x.mirror();
            x.kink(0, false, false);
        }
        x.restore(1);
        x.hold(0);
        x.restore(2);
        x.restore(0);
        check.told(x, seen[1]);
        check.due("slots", x.count(16), 3);
    }

    private void restoreForgets() {
        KnotRows x = Check.of(TREFOIL);
        x.mirror();
        x.hold(1);
        x.mirror();
        Check.feed(x, "ring");
        check.due("things", x.count(15), 2);
        check.due("an empty slot", x.restore(0), false);
        check.due("things stay", x.count(15), 2);
        check.due("restore", x.restore(1), true);
        check.due("no things", x.count(15), 0);
        check.due("undo", x.undo(), false);
        check.due("the tape stays", x.count(14), 4);
        check.told(x, "ring under 0 - over 1 - under 2 - over 0 - under 1 - over 2 - ;");
        x.switches(0);
        check.due("undo", x.undo(), true);
        check.told(x, "ring under 0 - over 1 - under 2 - over 0 - under 1 - over 2 - ;");
        check.due("undo no more", x.undo(), false);
        x = new KnotRows();
        check.due("hold nothing", x.hold(2), true);
        check.due("it is held", x.count(16), 1);
        check.due("restore nothing", x.restore(2), true);
    }

    private void farSlots() {
        KnotRows x = Check.of(TREFOIL);
        x.hold(0);
        x.hold(1);
        x.hold(2);
        x.mirror();
        for (int slot : FAR) {
            check.due("hold(" + slot + ")", x.hold(slot), false);
            check.due("restore(" + slot + ")", x.restore(slot), false);
            for (int what = 0; what < 3; what++) {
                check.due("alike(" + slot + ", " + what + ")", x.alike(slot, what), NONE);
            }
        }
        for (int what : FAR) {
            check.due("alike(0, " + what + ")", x.alike(0, what), NONE);
        }
        check.due("things stay", x.count(15), 1);
        x = Check.of(TREFOIL);
        x.hold(1);
        check.due("alike with an empty slot", x.alike(0, 0), NONE);
        check.due("rows alike with an empty slot", x.alike(2, 2), NONE);
        check.due("alike with a held one", x.alike(1, 0), 1);
    }

    private void alikeWith(KnotRows x, String about, int polynomial, int exchanged, int rows) {
        check.due(about + ": alike(0, 0)", x.alike(0, 0), polynomial);
        check.due(about + ": alike(0, 1)", x.alike(0, 1), exchanged);
        check.due(about + ": alike(0, 2)", x.alike(0, 2), rows);
    }

    private void alike() {
        KnotRows x = Check.of(TREFOIL);
        x.hold(0);
        alikeWith(x, "itself", 1, 0, 1);
        x.kink(1, false, true);
        alikeWith(x, "kinked", 1, 0, 0);
        x.switches(0);
        alikeWith(x, "switched", 0, 0, 0);
        x.loosen();
        alikeWith(x, "loosened", 0, 0, 0);
        x.hold(0);
        alikeWith(x, "loose ones", 1, 1, 1);
        x = new KnotRows();
        x.hold(0);
        alikeWith(x, "nothing", 1, 1, 1);
        x = Check.of("ring;ring;");
        x.hold(0);
        alikeWith(x, "two loose ones", 1, 1, 1);
        x.sum(0);
        alikeWith(x, "three loose ones", 0, 0, 0);
    }

    private void alikeExchanged() {
        KnotRows x = Check.of("braid 3 1 -2 1 -2;");
        x.hold(0);
        alikeWith(x, "figure eight", 1, 1, 1);
        x.mirror();
        alikeWith(x, "mirrored", 1, 1, 0);
        x = Check.of("braid 2 1 1 1 1;");
        x.hold(0);
        x.mirror();
        alikeWith(x, "mirrored link", 0, 1, 0);
        x.mirror();
        x.round(1);
        alikeWith(x, "one ring turned", 0, 0, 0);
        x.round(0);
        alikeWith(x, "both rings turned", 1, 0, 0);
    }

    private void rowsAlike() {
        KnotRows x = Check.of("ring over 0+under 0+;ring;");
        x.hold(0);
        check.due("the same", x.alike(0, 2), 1);
        x.mirror();
        check.due("mirrored", x.alike(0, 2), 0);
        x.mirror();
        check.due("mirrored twice", x.alike(0, 2), 1);
        x.out(0);
        check.due("fewer", x.alike(0, 2), 0);
        x.undo();
        x.round(0);
        check.due("a kink turned round starts with the same", x.alike(0, 2), 1);
        x = Check.of("ring over 0+under 0+;ring over 1+under 1+;");
        x.out(0);
        x.hold(0);
        x.undo();
        x.out(3);
        check.told(x, "ring over 0 + under 0 + ; ring ;");
        check.due("another ring is the loose one", x.alike(0, 2), 0);
        check.due("though alike", x.alike(0, 0), 1);
        x = Check.of("ring over 0+over 1-under 1-under 0+;");
        x.hold(0);
        x.round(0);
        check.due("another order of passes", x.alike(0, 2), 0);
        x.round(0);
        check.due("the first order", x.alike(0, 2), 1);
        x = Check.of("ring;ring;ring over 0+under 0+;");
        x.hold(1);
        x.round(2);
        check.due("turned", x.alike(1, 2), 1);
        x.kink(0, true, true);
        x.hold(2);
        x.restore(1);
        x.kink(0, true, false);
        check.due("only a sign is unlike", x.alike(2, 2), 0);
    }
}
