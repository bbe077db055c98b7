/**
 * The sentences of the first part of the terms and of promises 1 to 5 that name a boundary, each
 * with a test of its own, in the document's order.
 */
public final class TextBoundsTest {
    private static final int NONE = KnotRows.NONE;
    private static final int BYTES = 2000;
    private static final String FLAT = "ring over 1+over 2+under 1+under 2+;";

    private final Check check = new Check("text bounds");

    public static void main(String[] args) {
        TextBoundsTest test = new TextBoundsTest();
        test.aTextHasTwoThousandBytesAtMost();
        test.tokensAreTheLongestThatCanBe();
        test.blanksBetweenOrNot();
        test.whichBytesAreBlanksAndSigns();
        test.wordsOfLetters();
        test.intsOfOneToFourDigits();
        test.aTextOfNothing();
        test.fourRingsAtMost();
        test.aRingWithoutPasses();
        test.eightCrossingsAtMost();
        test.intsFromNoughtToNinetyNine();
        test.crossingsAreNumberedAsIntsStandFirst();
        test.twoToFourStrands();
        test.placesBelowTheStrands();
        test.eightCrossingsOfABraidAtMost();
        test.ringsBeginAtTheirLeastPlace();
        test.theFirstFaultByItsPlace();
        test.ofOnePlaceTheLeast();
        test.fourHundredTokens();
        test.wrongAndTwiceOnlyWithoutSyntaxAndRoom();
        test.wrongIsAtTheInt();
        test.twice();
        test.lacksOnlyWithoutTwice();
        test.planeOnlyWithoutAll();
        test.aFaultChangesNothingButTheTape();
        test.readsOneBehindTheOther();
        test.aTextTakesAllAhead();
        test.newObject();
        test.feedTellsEachByte();
        test.feedUpToTwoThousand();
        test.backUpToAll();
        test.readEmptiesTheTape();
        test.placeOfTheLatestRead();
        test.check.end();
    }

    private static String blanks(int many) {
        return " ".repeat(many);
    }

    private static String filled(String text) {
        return text + blanks(BYTES - text.length());
    }

    // ---- the terms, I ----

    private void aTextHasTwoThousandBytesAtMost() {
        check.fits(filled("braid 2 1 1 1;"), "ring over 0 + under 1 + over 2 + under 0 + over 1 + under 2 + ;");
        check.fits(blanks(BYTES), "");
        check.fits(blanks(BYTES - 5) + "ring;", "ring ;");
        check.fault(blanks(BYTES - 4) + "ring", 1, BYTES);
        check.fault(filled(FLAT), 6, BYTES);
        check.fault(filled("ring;").substring(0, BYTES - 1) + "!", 1, BYTES - 1);
        check.fault("z".repeat(BYTES), 1, 0);
        check.fault("7".repeat(BYTES), 1, 0);
        check.fault("ring over " + "0".repeat(BYTES - 10), 1, 10);
        check.fault("ring;".repeat(BYTES / 5), 2, 20);
        check.fault("\n".repeat(BYTES - 1) + ";", 1, BYTES - 1);
    }

    private void tokensAreTheLongestThatCanBe() {
        check.fault("ringover 1+under 1+;", 1, 0);
        check.fault("ringring;", 1, 0);
        check.fault("ring overover 1+;", 1, 5);
        check.fault("ring over 1 2+under 12+;", 1, 12);
        check.fault("braid 2 11;", 5, 8);
        check.fits("braid 2 1 1;", "ring over 0 + under 1 + ; ring under 0 + over 1 + ;");
        check.fault("braid 22;", 5, 6);
        check.fits("ring over 11+under 11+;", "ring over 0 + under 0 + ;");
    }

    private void blanksBetweenOrNot() {
        check.fits("ring over0+under0+;ring;", "ring over 0 + under 0 + ; ring ;");
        check.fits("ring\nover\t0\r+ under\n\n0  +\r\n;ring\t;\t", "ring over 0 + under 0 + ; ring ;");
        check.fits("braid2-1-1;", "ring under 0 - over 1 - ; ring over 0 - under 1 - ;");
        check.fits("\tbraid\n2\r-\n1 - 1 ; ", "ring under 0 - over 1 - ; ring over 0 - under 1 - ;");
        check.fault("ri ng;", 1, 0);
        check.fault("ring ov er 1+;", 1, 5);
        check.fault("ring over1 1+under 11+;", 1, 11);
    }

    /** Between 'ring' and its ';' each byte tells what it is. */
    private void whichBytesAreBlanksAndSigns() {
        for (char sign = 0; sign < 256; sign++) {
            String text = "ring" + sign + ";";
            boolean blank = sign == 9 || sign == 10 || sign == 13 || sign == 32;
            if (blank) {
                check.fits(text, "ring ;");
            } else if (sign == ';') {
                check.fault(text, 1, 5);
            } else if (sign >= 'a' && sign <= 'z') {
                check.fault(text, 1, 0);
            } else {
                check.fault(text, 1, 4);
            }
        }
        for (char sign = 0; sign < 256; sign++) {
            String text = "ring over 1" + sign + "under 1" + sign + ";";
            if (sign == '+' || sign == '-') {
                check.fits(text, "ring over 0 " + sign + " under 0 " + sign + " ;");
            } else {
                boolean digit = sign >= '0' && sign <= '9';
                boolean blank = sign == 9 || sign == 10 || sign == 13 || sign == 32;
                check.fault(text, 1, digit || blank ? 12 : 11);
            }
        }
    }

    /** Any word with a letter less, another letter or a great one is not the word. */
    private void wordsOfLetters() {
        for (String word : new String[] {"ring", "braid", "over", "under"}) {
            String ahead = word.equals("ring") || word.equals("braid") ? "" : "ring ";
            for (int i = 0; i < word.length(); i++) {
                char sign = word.charAt(i);
                for (char other : new char[] {(char) (sign - 1), (char) (sign + 1), (char) (sign - 32)}) {
                    check.fault(ahead + word.substring(0, i) + other + word.substring(i + 1) + " 2;", 1, ahead.length());
                }
            }
            for (int length = 1; length < word.length(); length++) {
                check.fault(ahead + word.substring(0, length) + " 2;", 1, ahead.length());
            }
            check.fault(ahead + word + "a 2;", 1, ahead.length());
            check.fault(ahead + word + "z 2;", 1, ahead.length());
        }
    }

    private void intsOfOneToFourDigits() {
        check.fits("ring over 7+under 07+;", "ring over 0 + under 0 + ;");
        check.fits("ring over 007+under 0007+;", "ring over 0 + under 0 + ;");
        check.fits("braid 0003 0002 -0001;", "ring under 1 - over 0 + under 0 + over 1 - ;");
        check.fault("ring over 00007+under 7+;", 1, 10);
        check.fault("ring over 7+under 00007+;", 1, 18);
        check.fault("braid 00002 1;", 1, 6);
        check.fault("braid 2 00001;", 1, 8);
        check.fault("braid 2 - 00001;", 1, 10);
        check.fault("ring over 4294967296+under 0+;", 1, 10);
        check.fault("ring over 9999+under 9999+;", 5, 10);
    }

    private void aTextOfNothing() {
        check.fits("", "");
        check.fits(" ", "");
        check.fits("\r\n\t ", "");
        KnotRows x = new KnotRows();
        check.due("read of an empty tape", x.read(), 0);
        check.due("place", x.place(), NONE);
        check.due("no RINGS", x.count(0), 0);
    }

    private void fourRingsAtMost() {
        check.fits("ring;ring;ring;ring;", "ring ; ring ; ring ; ring ;");
        check.fault("ring;ring;ring;ring;ring;", 2, 20);
        check.fault("ring;ring;ring;ring;  ring", 2, 22);
        check.fault("ring;ring;ring;ring over 1+under 1+;ring", 2, 36);
        check.fault("ring;ring;ring;ring;over", 1, 20);
    }

    private void aRingWithoutPasses() {
        KnotRows x = Check.of("ring;ring over 5+under 5+;ring;");
        check.due("LOOSE RINGS", x.count(9), 2);
        check.due("PASSES of the first", x.ring(0, NONE), 0);
        check.due("its first PASS", x.ring(0, 0), NONE);
        check.due("PASSES of the second", x.ring(1, NONE), 2);
        check.due("PASSES of the third", x.ring(2, NONE), 0);
        x = Check.of("braid 3;");
        check.due("LOOSE RINGS of a braid", x.count(9), 3);
        x = Check.of("braid 4 2;");
        check.due("LOOSE RINGS beside a RING of two strands", x.count(9), 2);
    }

    private static String overAndUnder(int crossings) {
        StringBuilder text = new StringBuilder("ring ");
        for (int c = 0; c < crossings; c++) {
            text.append("over ").append(c).append("+under ").append(c).append('+');
        }
        return text.append(';').toString();
    }

    private void eightCrossingsAtMost() {
        KnotRows x = Check.of(overAndUnder(8));
        check.due("CROSSINGS", x.count(1), 8);
        check.due("the last PASS", x.ring(0, 15), 4 * 7 + 1);
        check.fault(overAndUnder(9), 2, overAndUnder(8).length() - 1 + 5);
        String halves = "ring over 0+over 1+over 2+over 3+;ring over 4+over 5+over 6+over 7+;ring ";
        check.fault(halves + "under 8+;", 2, halves.length() + 6);
        check.fault(halves + "under 7-;", 3, halves.length() + 6);
    }

    private void intsFromNoughtToNinetyNine() {
        check.fits("ring over 0+under 0+;", "ring over 0 + under 0 + ;");
        check.fits("ring over 99+under 99+;", "ring over 0 + under 0 + ;");
        check.fault("ring over 100+under 100+;", 5, 10);
        check.fault("ring over 0+under 0+over 0100+under 100+;", 5, 25);
        check.fault("ring over -1+;", 1, 10);
    }

    private void crossingsAreNumberedAsIntsStandFirst() {
        KnotRows x = Check.of("ring;ring under 99-over 99-over 0+under 0+;ring under 50+over 50+;");
        check.row("PASSES", new long[] {x.ring(1, 0), x.ring(1, 1), x.ring(1, 2), x.ring(1, 3), x.ring(2, 0), x.ring(2, 1)},
            0, 2, 7, 5, 9, 11);
        check.row("signs", new long[] {x.crossing(0, 0), x.crossing(1, 0), x.crossing(2, 0)}, -1, 1, 1);
    }

    private void twoToFourStrands() {
        check.fault("braid 0;", 5, 6);
        check.fault("braid 1;", 5, 6);
        check.fits("braid 2;", "ring ; ring ;");
        check.fits("braid 3;", "ring ; ring ; ring ;");
        check.fits("braid 4;", "ring ; ring ; ring ; ring ;");
        check.fault("braid 5;", 5, 6);
        check.fault("braid 9999;", 5, 6);
        check.fault("braid 0 0 -0;", 5, 6);
        check.fault("braid 1 1;", 5, 6);
        check.fault("braid 5 1 2 3 4 9;", 5, 6);
    }

    private void placesBelowTheStrands() {
        check.fault("braid 2 0;", 5, 8);
        check.fits("braid 2 1;", "ring over 0 + under 0 + ;");
        check.fault("braid 2 2;", 5, 8);
        check.fault("braid 2 9999;", 5, 8);
        check.fault("braid 3 1 2 3;", 5, 12);
        check.fits("braid 3 2;", "ring ; ring over 0 + under 0 + ;");
        check.fits("braid 4 3;", "ring ; ring ; ring over 0 + under 0 + ;");
        check.fault("braid 4 4;", 5, 8);
        check.fault("braid 4 5;", 5, 8);
        check.fault("braid 4 - 0;", 5, 10);
        check.fault("braid 4 -4;", 5, 9);
    }

    private void eightCrossingsOfABraidAtMost() {
        String eight = "braid 2 1 1 1 1 1 1 1 1";
        check.due("CROSSINGS", Check.of(eight + ";").count(1), 8);
        check.due("CROSSINGS with '-'", Check.of("braid 2" + " - 1".repeat(8) + ";").count(1), 8);
        check.fault(eight + " 1;", 2, eight.length() + 1);
        check.fault(eight + "-1;", 2, eight.length());
        check.fault(eight + " 0;", 2, eight.length() + 1);
        check.fault(eight + "-", 2, eight.length());
        check.fault(eight, 1, eight.length());
        check.fault("braid 2" + " - 1".repeat(8) + " 1;", 2, 40);
    }

    private void ringsBeginAtTheirLeastPlace() {
        check.fits("braid 3 -1 -2;", "ring under 0 - under 1 - over 1 - over 0 - ;");
        check.fits("braid 4 3 -2;", "ring ; ring under 1 - over 0 + under 0 + over 1 - ;");
        check.fits("braid 3 1 1 2;", "ring over 0 + under 1 + ; ring under 0 + over 1 + over 2 + under 2 + ;");
        check.fits("braid 4 2 2;", "ring ; ring over 0 + under 1 + ; ring under 0 + over 1 + ; ring ;");
    }

    private void theFirstFaultByItsPlace() {
        check.fault("ring;ring;ring;ring;ring;!", 2, 20);
        check.fault("ring;ring;ring;ring!;ring;", 1, 19);
        check.fault("braid 2 1 1 1 1 1 1 1 1 1 !", 2, 24);
        check.fault("braid 2 1 1 1 ! 1 1 1 1 1 1", 1, 14);
        check.fault("ring over 100+over 101+over 1+over 1+;", 5, 10);
        check.fault("ring over 1+over 1+over 100+over 101+;", 3, 17);
        check.fault("ring over 1+over 2+over 3+;", 4, 10);
    }

    private void ofOnePlaceTheLeast() {
        String full = "ring" + " over 1+".repeat(133);
        check.fault(full + "over 1+", 2, full.length());
        check.fault(full + ";ring", 2, full.length());
        check.fault(full + "under", 2, full.length());
        check.fault(full + "ring", 1, full.length());
        check.fault(full + "braid", 1, full.length());
        check.fault(full + "-", 1, full.length());
        check.fault(full + "!", 1, full.length());
        check.fault(full, 1, full.length());
    }

    private void fourHundredTokens() {
        String most = "ring;ring" + " over 1+".repeat(132) + ";";
        check.fault(most, 3, 23);
        check.fault(most + "ring", 2, most.length());
        check.fault(most + blanks(8) + "ring;", 2, most.length() + 8);
        check.fault(most + blanks(8) + "rin", 1, most.length() + 8);
        check.fault("ring" + " over 1+".repeat(132) + " over 1 ++", 1, "ring".length() + 8 * 133 + 1);
    }

    private void wrongAndTwiceOnlyWithoutSyntaxAndRoom() {
        check.fault("ring over 100+under 100+", 1, 24);
        check.fault("ring over 1+over 1+ring", 1, 19);
        check.fault("ring over 1+over 1+;ring;ring;ring;ring;", 2, 35);
        check.fault("braid 5 1 1 1 1 1 1 1 1 1;", 2, 24);
        check.fault("braid 2 0 2 -", 1, 13);
    }

    private void wrongIsAtTheInt() {
        check.fault("ring   over   100 + ;", 5, 14);
        check.fault("braid   7;", 5, 8);
        check.fault("braid 2 -   0;", 5, 12);
        check.fault("ring over 1+under 1+;ring over 5000+;", 5, 31);
    }

    private void twice() {
        check.fault("ring over 3+over 3+;", 3, 17);
        check.fault("ring under 3+under 3+;", 3, 19);
        check.fault("ring over 3+under 3-;", 3, 18);
        check.fault("ring under 3-over 3+;", 3, 18);
        check.fault("ring over 3-over 3+;", 3, 17);
        check.fault("ring over 3+under 3+over 3+;", 3, 25);
        check.fault("ring under 3-over 3-;ring;ring under 3-;", 3, 37);
        check.fault("ring over 3+under 3+;ring over 3-over 4+over 4+;", 3, 31);
        check.fits("ring under 3-over 3-;", "ring under 0 - over 0 - ;");
    }

    private void lacksOnlyWithoutTwice() {
        check.fault("ring over 4+over 5+under 5-;", 3, 25);
        check.fault("ring over 4+over 100+under 100+;", 5, 17);
        check.fault("ring over 4+over 5+under 5+;", 4, 10);
        check.fault("ring over 5+under 5+over 4+;", 4, 25);
        check.fault("ring over 5+under 5+;ring;ring  under  4+;", 4, 39);
        check.fault("ring over 0+under 1+;ring over 1+;", 4, 10);
    }

    private void planeOnlyWithoutAll() {
        check.fault("ring over 1+over 2+under 1+;", 4, 17);
        check.fault(FLAT, 6, 36);
        check.fault(FLAT + "\n\n", 6, 38);
        check.fault("ring over 1+under 1+;" + FLAT.replace("1", "3"), 6, 57);
        check.fault("ring over 1+;ring under 1+;ring;", 6, 32);
        check.fits("ring;ring over 1+under 1+;ring;ring under 2-over 2-;",
            "ring ; ring over 0 + under 0 + ; ring ; ring under 1 - over 1 - ;");
    }

    private void aFaultChangesNothingButTheTape() {
        KnotRows x = Check.of("ring;ring over 1+under 2+over 3-under 3-;ring under 1+over 2+;");
        x.mirror();
        x.hold(1);
        x.kink(0, true, true);
        String told = Check.told(x);
        long[] due = {3, 4, 8, 6, 1, 0, 5, 0};
        int[] faults = {1, 2, 3, 4, 5, 6};
        String[] texts = {"rung", "ring;ring;ring;ring;ring;", "ring over 7+over 7+;", "ring over 8+;", "braid 3 3;", FLAT};
        int[] places = {0, 20, 17, 10, 8, 36};
        for (int i = 0; i < texts.length; i++) {
            check.fault(x, texts[i], faults[i], places[i]);
            check.told(x, told);
            check.due("things", x.count(15), 2);
            check.due("slots", x.count(16), 1);
            long[] got = new long[due.length];
            for (int what = 0; what < got.length; what++) {
                got[what] = x.count(what);
            }
            check.row("counts behind " + texts[i], got, due);
        }
        check.due("undo", x.undo(), true);
        check.due("it is what was held", x.alike(1, 2), 1);
    }

    /** Nothing of a text is left in the next one. */
    private void readsOneBehindTheOther() {
        KnotRows x = new KnotRows();
        check.fault(x, FLAT, 6, 36);
        check.fits(x, "ring over 1+under 1+;", "ring over 0 + under 0 + ;");
        check.fits(x, "ring over 5+under 6+over 7+under 5+over 6+under 7+;",
            "ring over 0 + under 1 + over 2 + under 0 + over 1 + under 2 + ;");
        check.fits(x, "braid 3 1;", "ring over 0 + under 0 + ; ring ;");
        check.fits(x, "ring;", "ring ;");
        check.fault(x, overAndUnder(9), 2, overAndUnder(8).length() - 1 + 5);
        check.fits(x, overAndUnder(2), "ring over 0 + under 0 + over 1 + under 1 + ;");
        check.fault(x, "ring over 9+;", 4, 10);
        check.fits(x, "ring under 9+over 9+;", "ring under 0 + over 0 + ;");
        check.fault(x, "braid 3 1 2 1 2 1 2 1 2 1;", 2, 24);
        check.fits(x, "ring;ring;ring;ring;", "ring ; ring ; ring ; ring ;");
        check.fault(x, "braid 2 1 1", 1, 11);
        check.fits(x, "braid 2 -1;", "ring under 0 - over 0 - ;");
        check.fault(x, "ring over 0+under 0-;", 3, 18);
        check.fits(x, "braid 4;", "ring ; ring ; ring ; ring ;");
        check.fits(x, "", "");
        check.fits(x, "ring over 0-under 0-;ring;", "ring over 0 - under 0 - ; ring ;");
    }

    private void aTextTakesAllAhead() {
        KnotRows x = Check.of("braid 3 1 2 1;");
        x.hold(0);
        x.hold(1);
        x.hold(2);
        x.mirror();
        x.round(0);
        check.due("read", Check.read(x, "ring over 0-under 0-;"), 0);
        check.told(x, "ring over 0 - under 0 - ;");
        check.anew("a text behind another", x);
        check.due("things", x.count(15), 0);
        check.due("undo", x.undo(), false);
        check.due("slots", x.count(16), 0);
        for (int slot = 0; slot < 3; slot++) {
            check.due("restore(" + slot + ")", x.restore(slot), false);
            check.due("sum(" + slot + ")", x.sum(slot), false);
            check.due("alike(" + slot + ", 0)", x.alike(slot, 0), NONE);
        }
        check.told(x, "ring over 0 - under 0 - ;");
    }

    // ---- promises 1 to 5 ----

    private void newObject() {
        KnotRows x = new KnotRows();
        check.told(x, "");
        check.due("count(0)", x.count(0), 0);
        check.due("ring(0, NONE)", x.ring(0, NONE), NONE);
        check.due("ring(0, 0)", x.ring(0, 0), NONE);
        check.due("crossing(0, 0)", x.crossing(0, 0), -100000);
        check.due("face(NONE, 0)", x.face(NONE, 0), 0);
        check.due("face(0, 0)", x.face(0, 0), NONE);
        check.due("loops(0)", x.loops(0), NONE);
        check.due("coefficient(0)", x.coefficient(0, false), 0);
        check.due("coefficient(0) knotted", x.coefficient(0, true), 0);
        check.due("winding(0, 1)", x.winding(0, 1), -100000);
        check.due("colourings(13)", x.colourings(13), 1);
        check.due("freed(0)", x.freed(0), 0);
        check.due("freed(1)", x.freed(1), 0);
        check.due("looser(3)", x.looser(3), 0);
        check.due("alike(0, 0)", x.alike(0, 0), NONE);
        check.due("place", x.place(), NONE);
        for (int what = 0; what < 17; what++) {
            check.due("count(" + what + ")", x.count(what), what == 13 ? 1 : 0);
        }
        check.refused("out", x, Check.seen(x), x.out(0), NONE);
        check.refused("slide", x, Check.seen(x), x.slide(0));
        check.refused("kink", x, Check.seen(x), x.kink(0, true, true));
        check.refused("loosen", x, Check.seen(x), x.loosen(), 0);
        check.refused("mirror", x, Check.seen(x), x.mirror());
        check.refused("round", x, Check.seen(x), x.round(0));
        check.refused("switches", x, Check.seen(x), x.switches(0));
        check.refused("sum", x, Check.seen(x), x.sum(0));
        check.refused("undo", x, Check.seen(x), x.undo());
        check.refused("restore", x, Check.seen(x), x.restore(0));
        check.refused("back", x, Check.seen(x), x.back(1), NONE);
    }

    /** A byte that is no TOKEN stands at each of the twenty places, all others are blanks. */
    private void feedTellsEachByte() {
        for (int bad = 0; bad < 20; bad++) {
            for (int sign : new int[] {0, 33, 128, 255}) {
                int[] word = new int[5];
                for (int i = 0; i < 20; i++) {
                    word[i / 4] = word[i / 4] << 8 | (i == bad ? sign : 32);
                }
                KnotRows x = new KnotRows();
                x.feed(0x20202020, 0x20202020, 0x20202020, 0x20202020, 0x20202020);
                check.due("feed", x.feed(word[0], word[1], word[2], word[3], word[4]), 40);
                check.due("read", x.read(), 1);
                check.due("place", x.place(), 20 + bad);
            }
        }
        KnotRows x = new KnotRows();
        x.feed(-1, Integer.MIN_VALUE, Integer.MAX_VALUE, 0, 0);
        check.due("read", x.read(), 1);
        check.due("place", x.place(), 0);
    }

    private void feedUpToTwoThousand() {
        KnotRows x = new KnotRows();
        for (int i = 1; i <= 100; i++) {
            check.due("feed", x.feed(0x20202020, 0x20202020, 0x20202020, 0x20202020, 0x20202020), 20 * i);
        }
        check.refused("feed of a full tape", x, Check.seen(x), x.feed(0, 0, 0, 0, 0), NONE);
        for (int less = 1; less < 20; less++) {
            check.due("back(1)", x.back(1), BYTES - less);
            check.refused("feed of " + (BYTES - less), x, Check.seen(x), x.feed(0, 0, 0, 0, 0), NONE);
        }
        check.due("back(1)", x.back(1), BYTES - 20);
        check.due("feed", x.feed(0x20202020, 0x20202020, 0x20202020, 0x20202020, 0x2020207b), BYTES);
        check.due("nothing else has come", x.read(), 1);
        check.due("but the last byte", x.place(), BYTES - 1);
    }

    private void backUpToAll() {
        KnotRows x = new KnotRows();
        Check.feed(x, "ring;ring;ring;ring;!abc");
        for (int n : new int[] {25, 26, 2000, Integer.MAX_VALUE, -1, -24, Integer.MIN_VALUE}) {
            check.refused("back(" + n + ")", x, Check.seen(x), x.back(n), NONE);
        }
        check.due("back(0)", x.back(0), 24);
        check.due("back(4)", x.back(4), 20);
        check.due("the last bytes went", x.read(), 0);
        check.due("the first ones stayed", x.count(0), 4);
        Check.feed(x, "ring!");
        check.due("back(5)", x.back(5), 0);
        check.refused("back(1)", x, Check.seen(x), x.back(1), NONE);
        check.due("back(0)", x.back(0), 0);
        check.due("read of what is left", x.read(), 0);
        check.due("RINGS", x.count(0), 0);
    }

    private void readEmptiesTheTape() {
        KnotRows x = new KnotRows();
        check.fault(x, "!!", 1, 0);
        check.due("nothing to go back", x.back(1), NONE);
        check.fits(x, "ring;", "ring ;");
        check.due("nothing to go back", x.back(1), NONE);
        Check.feed(x, "ri");
        Check.feed(x, "ng");
        Check.feed(x, ";");
        check.due("bytes that came one behind the other", x.count(14), 5);
        check.due("read", x.read(), 0);
        check.due("read of the empty tape", x.read(), 0);
        check.due("RINGS", x.count(0), 0);
    }

    private void placeOfTheLatestRead() {
        KnotRows x = new KnotRows();
        check.due("place of a new object", x.place(), NONE);
        check.fault(x, "ring over 1+;", 4, 10);
        Check.feed(x, "ring over 1+under 1+;");
        check.due("place behind feed", x.place(), 10);
        x.back(1);
        check.due("place behind back", x.place(), 10);
        check.due("read", x.read(), 1);
        check.due("place at the end", x.place(), 20);
        check.fault(x, "!", 1, 0);
        check.fits(x, "ring over 1+under 1+;", "ring over 0 + under 0 + ;");
        check.fault(x, "  !", 1, 2);
        x.mirror();
        x.hold(0);
        x.restore(0);
        x.undo();
        check.due("place behind other calls", x.place(), 2);
        check.due("read", x.read(), 0);
        check.due("place", x.place(), NONE);
    }
}
