/** The tape and the text: promises 1 to 5 and the first part of the terms. */
public final class TextTest {
    private static final String TREFOIL = "braid 2 1 1 1;";
    private static final int NONE = KnotRows.NONE;

    private TextTest() {
    }

    public static void main(String[] args) {
        Check check = new Check("text");
        newObject(check);
        feedAndBack(check);
        bytesInOrder(check);
        readsRings(check);
        readsBraids(check);
        syntax(check);
        words(check);
        room(check);
        roomOfTokens(check);
        wrong(check);
        twiceAndLacks(check);
        plane(check);
        faultChangesNothing(check);
        readChangesAll(check);
        check.end();
    }

    private static void newObject(Check check) {
        KnotRows x = new KnotRows();
        for (int what = 0; what <= 16; what++) {
            check.due("new count(" + what + ")", x.count(what), what == 13 ? 1 : 0);
        }
        check.due("new place", x.place(), NONE);
        check.due("new undo", x.undo(), false);
        check.due("new ring", x.ring(0, NONE), NONE);
        check.due("new loops", x.loops(0), NONE);
        check.due("new restore", x.restore(0), false);
        check.due("new mirror", x.mirror(), false);
    }

    private static void feedAndBack(Check check) {
        KnotRows x = new KnotRows();
        for (int i = 1; i <= 99; i++) {
            check.due("feed " + i, x.feed(0, 0, 0, 0, 0), 20 * i);
        }
        check.due("back(1)", x.back(1), 1979);
        check.due("feed to 1999", x.feed(0, 0, 0, 0, 0), 1999);
        check.due("feed above", x.feed(0, 0, 0, 0, 0), NONE);
        check.due("nothing came", x.count(14), 1999);
        check.due("back(18)", x.back(18), 1981);
        check.due("feed to 2001", x.feed(0, 0, 0, 0, 0), NONE);
        check.due("nothing came", x.count(14), 1981);
        check.due("back(1)", x.back(1), 1980);
        check.due("feed to 2000", x.feed(0, 0, 0, 0, 0), 2000);
        check.due("feed when full", x.feed(0, 0, 0, 0, 0), NONE);
        check.due("back too far", x.back(2001), NONE);
        check.due("back(-1)", x.back(-1), NONE);
        check.due("back(least)", x.back(Integer.MIN_VALUE), NONE);
        check.due("nothing went", x.count(14), 2000);
        check.due("back(0)", x.back(0), 2000);
        check.due("back(2000)", x.back(2000), 0);
        check.due("back(1) of nothing", x.back(1), NONE);
        check.due("back(0) of nothing", x.back(0), 0);
    }

    private static void bytesInOrder(Check check) {
        KnotRows x = new KnotRows();
        x.feed(0x72696e67, 0x206f7665, 0x7220372b, 0x20756e64, 0x65722037);
        x.feed(0x2b3b2020, 0x20202020, 0x20202020, 0x20202020, 0x20202080);
        x.back(1);
        check.due("read", x.read(), 0);
        check.due("one crossing", x.count(1), 1);
        x.feed(0x20202020, 0x20202020, 0x20202020, 0x20202020, 0x20202080);
        check.due("a byte above 127", x.read(), 1);
        check.due("its place", x.place(), 19);
        x.feed(0x20202020, 0x20202020, 0x20ff2020, 0x20202020, 0x20202080);
        check.due("two such bytes", x.read(), 1);
        check.due("place of the first", x.place(), 9);
    }

    private static void readsRings(Check check) {
        check.fits("", "");
        check.fits(" \t\r\n", "");
        check.fits("ring;", "ring ;");
        check.fits("ring;ring ;\nring\t;\rring;", "ring ; ring ; ring ; ring ;");
        check.fits("ring over 5+under 05+;", "ring over 0 + under 0 + ;");
        check.fits("ring over 99 - under 0099 - ;ring;", "ring over 0 - under 0 - ; ring ;");
        check.fits("ring over 7 + under 3 + over 9 + under 7 + over 3 + under 9 + ;",
            "ring over 0 + under 1 + over 2 + under 0 + over 1 + under 2 + ;");
        check.fits("ring over 8+under 0+;ring under 8+over 0+;", "ring over 0 + under 1 + ; ring under 0 + over 1 + ;");
    }

    private static void readsBraids(Check check) {
        check.fits("braid 2;", "ring ; ring ;");
        check.fits("braid 4;", "ring ; ring ; ring ; ring ;");
        check.fits("braid 2 1;", "ring over 0 + under 0 + ;");
        check.fits("braid 2-1;", "ring under 0 - over 0 - ;");
        check.fits(TREFOIL, "ring over 0 + under 1 + over 2 + under 0 + over 1 + under 2 + ;");
        check.fits("braid 0002 1 -0001;", "ring over 0 + over 1 - ; ring under 0 + under 1 - ;");
        check.fits("braid 3 1 2;", "ring over 0 + over 1 + under 1 + under 0 + ;");
        check.fits("braid 3 -2 1;", "ring over 1 + under 0 - over 0 - under 1 + ;");
        check.fits("braid 4 2 2;", "ring ; ring over 0 + under 1 + ; ring under 0 + over 1 + ; ring ;");
        check.fits("braid 4 3 1 3 1;",
            "ring over 1 + under 3 + ; ring under 1 + over 3 + ; ring over 0 + under 2 + ; ring under 0 + over 2 + ;");
    }

    private static void syntax(Check check) {
        check.fault("ring", 1, 4);
        check.fault("ring  ", 1, 6);
        check.fault("braid", 1, 5);
        check.fault("braid 2", 1, 7);
        check.fault("braid 2 1 -", 1, 11);
        check.fault("braid ;", 1, 6);
        check.fault("braid -2;", 1, 6);
        check.fault("braid 2 +1;", 1, 8);
        check.fault("braid 2 - - 1;", 1, 10);
        check.fault("braid 2 -;", 1, 9);
        check.fault("braid 2; ring;", 1, 9);
        check.fault("braid 2;;", 1, 8);
        check.fault("braid 2; 1", 1, 9);
        check.fault("ring; braid 2;", 1, 6);
        check.fault(";", 1, 0);
        check.fault(" 7", 1, 1);
        check.fault("over 1 +", 1, 0);
        check.fault("ring 1 +;", 1, 5);
        check.fault("ring over + 1;", 1, 10);
        check.fault("ring over 1;", 1, 11);
        check.fault("ring over 1 under 1 +;", 1, 12);
        check.fault("ring over 1 + -;", 1, 14);
        check.fault("ring over 1 + under 1 + ; over 2 +;", 1, 26);
        check.fault("ring over 1", 1, 11);
        check.fault("ring over 1 +", 1, 13);
        check.fault("ring over", 1, 9);
        check.fault("ring ring;", 1, 5);
    }

    private static void words(Check check) {
        check.fault("Ring;", 1, 0);
        check.fault("rin g;", 1, 0);
        check.fault("rings;", 1, 0);
        check.fault("ringz;", 1, 0);
        check.fault("ringa;", 1, 0);
        check.fault("sing;", 1, 0);
        check.fault("xraid 2;", 1, 0);
        check.fault("ring aver 1+;", 1, 5);
        check.fault("ring onder 1+;", 1, 5);
        check.fault("braids 2;", 1, 0);
        check.fault("ringover1+;", 1, 0);
        check.fault("ring overr 1 +;", 1, 5);
        check.fault("ring unde 1 +;", 1, 5);
        check.fault("ring over 12345 +;", 1, 10);
        check.fault("ring over 00001 +;", 1, 10);
        check.fault("ring over 1234567890123 +;", 1, 10);
        check.fault("ring over 1, +;", 1, 11);
        check.fault("ring over 1_+;", 1, 11);
        check.fault("ring\u000b;", 1, 4);
        check.fault("ring\f;", 1, 4);
        check.fault("ring:", 1, 4);
        check.fault("ring /;", 1, 5);
        check.fault("ring `;", 1, 5);
        check.fault("ring {;", 1, 5);
        check.fault("\0", 1, 0);
    }

    private static void room(Check check) {
        check.fault("ring;ring;ring;ring;ring;", 2, 20);
        check.fault("ring;ring;ring;ring; ring !", 2, 21);
        check.fault("ring;ring;ring;ring;rings;", 1, 20);
        StringBuilder nine = new StringBuilder("ring ");
        for (int i = 0; i < 8; i++) {
            nine.append("over ").append(i).append("+ ");
        }
        check.fault(nine + "over 8+;", 2, 74);
        check.fault(nine + "over 8", 2, 74);
        check.fault(nine + "over 2345 ring", 2, 74);
        check.fault(nine + "over 07 +;", 3, 74);
        check.fault(nine + "over !", 1, 74);
        check.fault(nine + ";", 4, 10);
        check.fault("ring over 100+over 101+over 102+over 103+over 104+over 105+over 106+over 107+over 108+;", 2, 82);
        check.fault("braid 2 1 1 1 1 1 1 1 1 1;", 2, 24);
        check.fault("braid 2 1 1 1 1 1 1 1 1 - 1;", 2, 24);
        check.fault("braid 2 1 1 1 1 1 1 1 1 -;", 2, 24);
        check.fault("braid 2 1 1 1 1 1 1 1 -1 - ;", 2, 25);
        check.fault("braid 2 1 1 1 1 1 1 1 1 +", 1, 24);
        check.fault("braid 9 9 1 1 1 1 1 1 1 1 ;", 2, 24);
        check.fits("braid 2 1 -1 1 -1 1 -1 1 -1;",
            "ring over 0 + over 1 - over 2 + over 3 - over 4 + over 5 - over 6 + over 7 - ; "
            + "ring under 0 + under 1 - under 2 + under 3 - under 4 + under 5 - under 6 + under 7 - ;");
    }

    /** 'ring' and 133 passes are 400 TOKENS. */
    private static void roomOfTokens(Check check) {
        String full = "ring" + " over 1+".repeat(133);
        check.fault(full + ";", 2, full.length());
        check.fault(full + " over", 2, full.length() + 1);
        check.fault(full + " ring", 1, full.length() + 1);
        check.fault(full + " 77777", 1, full.length() + 1);
        check.fault(full + "  ", 1, full.length() + 2);
        String whole = "ring;ring" + " over 1+".repeat(132) + ";";
        check.fault(whole, 3, 23);
        check.fault(whole + "  ", 3, 23);
        check.fault(whole + "ring;", 2, whole.length());
        check.fault(whole + " ring!", 2, whole.length() + 1);
        check.fault(whole + " !", 1, whole.length() + 1);
        check.fault(whole + " over", 1, whole.length() + 1);
    }

    private static void wrong(Check check) {
        check.fault("ring over 100+under 100+;", 5, 10);
        check.fault("ring over 1+over 9999+over 1+;", 5, 17);
        check.fault("ring over 1+over 1+over 9999+;", 3, 17);
        check.fault("braid 1;", 5, 6);
        check.fault("braid 5 9 9;", 5, 6);
        check.fault("braid 0;", 5, 6);
        check.fault("braid 2 1 2 0;", 5, 10);
        check.fault("braid 3 1 2 3;", 5, 12);
        check.fault("braid 4 1 2 3 -4;", 5, 15);
        check.fault("braid 4 - 0 9;", 5, 10);
        check.fault("braid 2 2 !", 1, 10);
    }

    private static void twiceAndLacks(Check check) {
        check.fault("ring over 1+over 1+;", 3, 17);
        check.fault("ring over 1+under 1-;", 3, 18);
        check.fault("ring under 1-;ring under 01-;", 3, 25);
        check.fault("ring over 1+under 1+over 1+;", 3, 25);
        check.fault("ring over 1+under 1+under 1+;", 3, 26);
        check.fault("ring over 4+over 1+under 1-;", 3, 25);
        check.fault("ring over 4+under 1+;", 4, 10);
        check.fault("ring over 4+under 4+;ring under 7-;", 4, 32);
        check.fault("ring over 4+over 5+under 4+;", 4, 17);
    }

    private static void plane(Check check) {
        check.fault("ring over 1+over 2+under 1+under 2+;", 6, 36);
        check.fault("ring over 1+;ring under 1+;", 6, 27);
        check.fault("ring over 1+under 2-;ring under 1+over 2-; ", 6, 43);
        check.fits("ring over 1+under 2+;ring under 1+over 2+; ", "ring over 0 + under 1 + ; ring under 0 + over 1 + ;");
        check.fits("ring over 1+over 2-;ring under 1+under 2-;", "ring over 0 + over 1 - ; ring under 0 + under 1 - ;");
        check.fault("ring over 1+over 2+;ring under 1+under 2+;", 6, 42);
        check.fits("ring over 1+over 2+under 2+under 1+;", "ring over 0 + over 1 + under 1 + under 0 + ;");
    }

    private static void faultChangesNothing(Check check) {
        KnotRows x = Check.of(TREFOIL);
        x.switches(1);
        x.hold(2);
        x.mirror();
        String told = Check.told(x);
        for (String text : new String[] {"rung", "ring;ring;ring;ring;ring;", "braid 1;", "ring over 1+over 1+;",
            "ring over 1+;", "ring over 1+;ring under 1+;"}) {
            check.due("a fault", Check.read(x, text) > 0, true);
            check.due("a place", x.place() != NONE, true);
            check.due("the rows stay", Check.told(x).equals(told), true);
            check.due("things to undo", x.count(15), 2);
            check.due("slots", x.count(16), 1);
            check.due("faces stay", x.count(3), 5);
        }
        check.due("undo", x.undo(), true);
        check.due("restore", x.restore(2), true);
    }

    private static void readChangesAll(Check check) {
        KnotRows x = Check.of(TREFOIL);
        x.hold(0);
        x.hold(1);
        x.mirror();
        Check.feed(x, "bra");
        check.due("a fault first", x.read(), 1);
        check.due("an empty text", x.read(), 0);
        check.due("no place", x.place(), NONE);
        check.due("no rings", x.count(0), 0);
        check.due("no crossings", x.count(1), 0);
        check.due("no faces", x.face(NONE, 0), 0);
        check.due("nothing to undo", x.count(15), 0);
        check.due("undo", x.undo(), false);
        check.due("no slots", x.count(16), 0);
        check.due("restore", x.restore(0), false);
        check.due("coefficient", x.coefficient(0, true), 0);
    }
}
