import java.util.Arrays;

/**
 * What the theory of knots says whatever way the document's words are read: what moves must keep,
 * and how answers that are worked out in unlike ways must hang together. Long runs of things done
 * by hand, told by a row of numbers that is always the same.
 */
public final class KeptTest {
    private static final int NONE = KnotRows.NONE;
    private static final int REACH = 60;
    private static final int RUNS = 300;
    private static final int CHANGES = 8;
    private static final int[] PRIMES = {2, 3, 5, 7, 11, 13};

    private final Check check;
    private final KnotRows x = new KnotRows();
    private long state;

    private KeptTest(Check check, int run) {
        this.check = check;
        state = 362436069362436069L + 104729L * run;
    }

    public static void main(String[] args) {
        Check check = new Check("kept");
        for (int run = 0; run < RUNS; run++) {
            KeptTest test = new KeptTest(check, run);
            test.readsABraid();
            for (int change = 0; change < CHANGES; change++) {
                test.answersHangTogether();
                test.changes(test.any(6));
            }
        }
        check.end();
    }

    private int any(int below) {
        state ^= state << 13;
        state ^= state >>> 7;
        state ^= state << 17;
        return (int) Long.remainderUnsigned(state, below);
    }

    private void readsABraid() {
        int strands = 2 + any(3);
        StringBuilder text = new StringBuilder("braid ").append(strands);
        for (int i = any(9); i > 0; i--) {
            text.append(any(3) == 0 ? " -" : " ").append(1 + any(strands - 1));
        }
        check.due("read of " + text, Check.read(x, text + ";"), 0);
    }

    // ---- what is told ----

    private long[] polynomial(boolean knotted) {
        long[] told = new long[2 * REACH + 1];
        for (int e = -REACH; e <= REACH; e++) {
            told[REACH + e] = x.coefficient(e, knotted);
        }
        return told;
    }

    /** Each winding, one behind the other. */
    private int[] windings() {
        int[] told = new int[16];
        for (int one = 0; one < x.count(0); one++) {
            for (int other = 0; other < x.count(0); other++) {
                told[4 * one + other] = one == other ? 0 : x.winding(one, other);
            }
        }
        return told;
    }

    private long[] colourings() {
        return Arrays.stream(PRIMES).mapToLong(x::colourings).toArray();
    }

    private static long[] moved(long[] polynomial, int by, boolean less) {
        long[] moved = new long[polynomial.length];
        for (int i = 0; i < moved.length; i++) {
            if (polynomial[i] != 0) {
                moved[i + by] = less ? -polynomial[i] : polynomial[i];
            }
        }
        return moved;
    }

    private static long[] exchanged(long[] polynomial) {
        long[] exchanged = new long[polynomial.length];
        for (int i = 0; i < exchanged.length; i++) {
            exchanged[i] = polynomial[exchanged.length - 1 - i];
        }
        return exchanged;
    }

    private static long[] product(long[] one, long[] other) {
        long[] product = new long[one.length];
        for (int i = 0; i < one.length; i++) {
            for (int j = 0; j < one.length; j++) {
                if (one[i] != 0 && other[j] != 0) {
                    product[i + j - REACH] += one[i] * other[j];
                }
            }
        }
        return product;
    }

    private void alike(String what, long[] got, long[] due) {
        check.due(what + " alike: " + Check.told(x), Arrays.equals(got, due), true);
    }

    // ---- how answers hang together ----

    private void answersHangTogether() {
        String rows = Check.told(x);
        long[] knotted = polynomial(true);
        check.due("drawn on a plane: " + rows, x.count(3), x.count(1) + 2 * x.count(4));
        check.due("EDGES of " + rows, x.count(2), 2 * x.count(1));
        check.due("CORNERS of " + rows, corners(), 2 * x.count(2));
        check.due("determinant by KNOTTED of " + rows, x.count(7), Math.abs(atTheEighthRoot(knotted)));
        check.due("colourings by 2 of " + rows, x.colourings(2), 1L << x.count(0));
        for (int p : PRIMES) {
            if (p > 2) {
                check.due("colourings by " + p + " of " + rows, x.colourings(p) > p, x.count(7) % p == 0);
            }
        }
        int pieces = x.count(4) + x.count(9);
        check.due("SPAN of " + rows, x.count(8) <= 4 * (x.count(1) + pieces - 1), true);
        int both = x.loops(0) + x.loops((1 << x.count(1)) - 1);
        check.due("LOOPS of the outer STATES of " + rows, both <= x.count(1) + 2 * pieces, true);
        if (x.count(13) == 1) {
            check.due("LOOPS in turns of " + rows, both, x.count(1) + 2 * pieces);
        }
        check.due("WRITHE of " + rows, 2 * linked() + own(), x.count(5));
    }

    private int corners() {
        int corners = 0;
        for (int face = 0; face < x.face(NONE, 0); face++) {
            corners += x.face(face, 0);
        }
        return corners;
    }

    private int linked() {
        int sum = 0;
        for (int winding : windings()) {
            sum += winding;
        }
        return sum / 2;
    }

    /** Signs of CROSSINGS of a RING with itself. */
    private int own() {
        int sum = 0;
        for (int c = 0; c < x.count(1); c++) {
            sum += x.crossing(c, 5) == x.crossing(c, 6) ? x.crossing(c, 0) : 0;
        }
        return sum;
    }

    /** Where A to the 4 is -1 all powers of KNOTTED are one whole number times one power of A. */
    private long atTheEighthRoot(long[] knotted) {
        long sum = 0;
        int rest = x.count(0) % 2 == 1 ? 0 : 2;
        for (int e = -REACH; e <= REACH; e++) {
            check.due("no power but each fourth, at " + e, knotted[REACH + e] != 0 && Math.floorMod(e, 4) != rest, false);
            sum += Math.floorMod(e, 8) < 4 ? knotted[REACH + e] : -knotted[REACH + e];
        }
        return sum;
    }

    // ---- what is kept ----

    private void changes(int kind) {
        switch (kind) {
            case 0, 1 -> moves();
            case 2 -> mirrors();
            case 3 -> turnsRound();
            case 4 -> switches();
            default -> sums();
        }
    }

    /** A new KINK, all TRIANGLES, a KINK or PAIR less, all LOOSENED: nothing of it is a knot's. */
    private void moves() {
        long[] knotted = polynomial(true);
        int[] windings = windings();
        long[] colourings = colourings();
        int determinant = x.count(7);
        String before = Check.told(x);
        int things = x.count(15);
        if (x.count(2) > 0) {
            x.kink(any(x.count(2)), any(2) == 0, any(2) == 0);
        }
        for (int face = 0; face < x.count(3); face++) {
            int crossings = x.count(1);
            if (x.slide(face)) {
                check.due("a SLIDE takes nothing", x.count(1), crossings);
                alike("KNOTTED behind a SLIDE", polynomial(true), knotted);
            }
        }
        int face = any(x.count(3) + 1);
        int gone = x.face(face, 1) == 1 ? 1 : 2;
        int crossings = x.count(1);
        int left = x.out(face);
        check.due("left", left, left == NONE ? NONE : crossings - gone);
        alike("KNOTTED behind one that went", polynomial(true), knotted);
        if (any(2) == 0) {
            x.loosen();
        }
        alike("KNOTTED", polynomial(true), knotted);
        alike("colourings", colourings(), colourings);
        check.due("windings", Arrays.equals(windings(), windings), true);
        check.due("determinant", x.count(7), determinant);
        if (any(3) == 0) {
            for (int done = x.count(15); done > things; done--) {
                x.undo();
            }
            check.due("all undone", Check.told(x).equals(before), true);
        }
    }

    private void mirrors() {
        long[] knotted = polynomial(true);
        long[] bracket = polynomial(false);
        long[] colourings = colourings();
        x.hold(0);
        x.mirror();
        alike("KNOTTED exchanged", polynomial(true), exchanged(knotted));
        alike("BRACKET exchanged", polynomial(false), exchanged(bracket));
        alike("colourings", colourings(), colourings);
        check.due("alike, exchanged", x.alike(0, 1), 1);
    }

    private void turnsRound() {
        long[] knotted = polynomial(true);
        long[] bracket = polynomial(false);
        long[] colourings = colourings();
        int ring = any(x.count(0));
        int wound = 0;
        for (int other = 0; other < x.count(0); other++) {
            wound += other == ring ? 0 : x.winding(ring, other);
        }
        x.round(ring);
        alike("BRACKET", polynomial(false), bracket);
        alike("KNOTTED", polynomial(true), moved(knotted, 12 * wound, false));
        alike("colourings", colourings(), colourings);
    }

    /** A to the 4 times KNOTTED with +, less A to the -4 times that with -, is so often A to the -2 less A to the 2. */
    private void switches() {
        if (x.count(1) == 0) {
            return;
        }
        int crossing = any(x.count(1));
        boolean plus = x.crossing(crossing, 0) > 0;
        long[] before = polynomial(true);
        x.switches(crossing);
        long[] behind = polynomial(true);
        long[] above = moved(plus ? before : behind, 4, false);
        long[] below = moved(plus ? behind : before, -4, true);
        long[] parted = new long[above.length];
        for (int i = above.length - 1; i >= 4; i--) {
            long rest = above[i] + below[i];
            parted[i - 2] = -rest;
            above[i - 4] += rest;
        }
        for (int i = 0; i < 4; i++) {
            check.due("no rest at " + i, above[i] + below[i], 0);
        }
        check.due("parted, all are one or there is one more", Math.abs(sum(parted)), 1L << mergedRings(crossing) - 1);
    }

    /** At A = 1 a knot's polynomial is (-2) to the RINGS less 1; a parted CROSSING joins two RINGS or makes two of one. */
    private int mergedRings(int crossing) {
        return x.crossing(crossing, 5) == x.crossing(crossing, 6) ? x.count(0) + 1 : x.count(0) - 1;
    }

    private static long sum(long[] polynomial) {
        return Arrays.stream(polynomial).sum();
    }

    private void sums() {
        long[] one = polynomial(true);
        long[] colourings = colourings();
        int determinant = x.count(7);
        int crossings = x.count(1);
        int rings = x.count(0);
        x.hold(1);
        boolean fits = 2 * crossings <= 8 && 2 * rings - 1 <= 4;
        check.due("sum with itself", x.sum(1), fits);
        if (fits) {
            alike("KNOTTED of a SUM", polynomial(true), product(one, one));
            check.due("determinant of a SUM", x.count(7), determinant * determinant);
            for (int i = 0; i < PRIMES.length; i++) {
                check.due("colourings of a SUM", x.colourings(PRIMES[i]), colourings[i] * colourings[i] / PRIMES[i]);
            }
            check.due("CROSSINGS of a SUM", x.count(1), 2 * crossings);
            check.due("RINGS of a SUM", x.count(0), 2 * rings - 1);
        }
        x.restore(1);
    }
}
