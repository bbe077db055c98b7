/** What would come loose by switches and by slides: promises 22 and 23. */
public final class LooseningTest {
    private static final int NONE = KnotRows.NONE;
    private static final int NEVER = -2;

    private final Check check = new Check("loosening");

    public static void main(String[] args) {
        LooseningTest test = new LooseningTest();
        test.freed();
        test.freedTakesTheLeastBits();
        test.freedIsTrue();
        test.neverFreed();
        test.looser();
        test.looserBySlides();
        test.check.end();
    }

    private void freedBy(String text, int many, int bits) {
        KnotRows x = Check.of(text);
        String told = Check.told(x);
        check.due("freed(1) of " + text, x.freed(1), bits);
        check.due("freed(0) of " + text, x.freed(0), many);
        check.due("nothing changed", Check.told(x).equals(told), true);
        check.due("nothing done", x.count(15), 0);
    }

    private void freed() {
        freedBy("", 0, 0);
        freedBy("ring;ring;", 0, 0);
        freedBy("braid 2 1;", 0, 0);
        freedBy("braid 2 1 -1 1 -1;", 0, 0);
        freedBy("braid 2 1 1;", 1, 1);
        freedBy("braid 2 1 1 1;", 1, 1);
        freedBy("braid 2 1 1 1 1;", 2, 3);
        freedBy("braid 2 1 1 1 1 1;", 2, 3);
        freedBy("braid 2 1 1 1 1 1 1 1 1;", 4, 15);
        freedBy("braid 3 1 -2 1 -2;", 1, 1);
        KnotRows x = Check.of("braid 2 1 1 1;");
        for (int what : new int[] {-1, 2, Integer.MIN_VALUE, Integer.MAX_VALUE}) {
            check.due("freed(" + what + ")", x.freed(what), NONE);
        }
        x.switches(1);
        check.due("freed(0) behind a switch", x.freed(0), 0);
        check.due("freed(1) behind a switch", x.freed(1), 0);
        x.undo();
        check.due("freed(0) behind undo", x.freed(0), 1);
    }

    /** A kink ahead moves the crossings that matter to higher bits; a kink itself needs no switch. */
    private void freedTakesTheLeastBits() {
        freedBy("ring over 9+under 9+over 0+under 1+over 2+under 0+over 1+under 2+;", 1, 2);
        freedBy("ring over 9+under 9+over 0+under 1+;ring under 0+over 1+;", 1, 2);
        freedBy("ring over 9+under 9+over 8-under 8-over 0+under 1+;ring under 0+over 1+;", 1, 4);
    }

    private void freedIsTrue() {
        for (String text : new String[] {"braid 3 1 1 1 -2 1 -2;", "braid 3 1 2 1 2 1 2 1 2;", "braid 4 1 2 3 -2 1 -3;",
            "braid 3 1 -2 1 -2 1 -2 1 -2;", "braid 4 1 -2 3 -2 1 3;"}) {
            KnotRows x = Check.of(text);
            int bits = x.freed(1);
            check.due("as many as bits of " + text, x.freed(0), bits < 0 ? NEVER : Integer.bitCount(bits));
            for (int c = 0; bits >= 0 && c < 8; c++) {
                if ((bits >> c & 1) == 1) {
                    x.switches(c);
                }
            }
            int before = x.count(1);
            check.due("all goes from " + text, x.loosen() == before, bits >= 0);
        }
    }

    /** Whatever is switched, something is left that neither a KINK nor a PAIR opens. */
    private void neverFreed() {
        freedBy("braid 3 2 1 2 1 2 1;", NEVER, NEVER);
        freedBy("braid 3 -2 1 2 1 2 1;", NEVER, NEVER);
        KnotRows x = Check.of("braid 3 2 1 2 1 2 1;");
        check.due("freed(2) is none ahead of never", x.freed(2), NONE);
        check.due("freed(-2)", x.freed(-2), NONE);
    }

    private void row(String text, int... due) {
        KnotRows x = Check.of(text);
        String told = Check.told(x);
        for (int n = 0; n <= 3; n++) {
            check.due("looser(" + n + ") of " + text, x.looser(n), due[n]);
        }
        check.due("nothing changed", Check.told(x).equals(told), true);
        check.due("nothing done", x.count(15), 0);
    }

    private void looser() {
        row("", 0, 0, 0, 0);
        row("ring;", 0, 0, 0, 0);
        row("braid 2 1;", 1, 1, 1, 1);
        row("braid 2 1 1 1;", 0, 0, 0, 0);
        row("braid 2 1 -1;", 1, 1, 1, 1);
        row("braid 3 1 -2 1 -2;", 0, 0, 0, 0);
        KnotRows x = Check.of("braid 2 1;");
        for (int n : new int[] {-1, 4, Integer.MIN_VALUE, Integer.MAX_VALUE}) {
            check.due("looser(" + n + ")", x.looser(n), NONE);
        }
        check.due("looser of nothing", new KnotRows().looser(-1), NONE);
    }

    private void looserBySlides() {
        row("braid 3 2 1 2 1;", 0, 1, 1, 1);
        row("braid 3 -2 -1 -2 -1;", 0, 1, 1, 1);
        row("braid 3 2 -1 2 1 1 1;", 0, 0, 1, 1);
        row("braid 3 2 2 1 2 1 1;", 0, 0, 1, 1);
        row("braid 4 -3 -3 2 1 1 1 1;", 0, 0, 0, 1);
        row("braid 4 -3 2 -3 1 1 1 1;", 0, 0, 0, 1);
        row("braid 3 2 1 2 1 2 1;", 0, 0, 0, 0);
        row("braid 4 3 3 -2 1 2 2 1;", 0, 0, 1, 1);
        KnotRows x = Check.of("braid 3 2 1 2 1;");
        for (int face = 0; face < x.count(3); face++) {
            if (x.slide(face)) {
                check.due("looser(0) behind a slide", x.looser(0), 1);
                x.undo();
            }
        }
        check.due("looser(0) behind undo", x.looser(0), 0);
    }
}
