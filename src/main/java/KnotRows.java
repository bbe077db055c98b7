/**
 * Knots as rows: rings of string that go over and under at crossings. The terms in capitals and the
 * numbered promises are those of DOC.md.
 */
public final class KnotRows {
    public static final int NONE = -1;

    private static final int OTHERS = -100000;
    private static final int NEVER_FREE = -2;
    private static final int MOST_RINGS = 4;
    private static final int MOST_CROSSINGS = 8;
    private static final int MOST_PASSES = 16;
    private static final int MOST_WAYS = 32;
    private static final int MOST_ARCS = 12;
    private static final int MOST_BYTES = 2000;
    private static final int MOST_TOKENS = 400;
    private static final int MOST_UNDONE = 40;
    private static final int MOST_SLIDES = 3;
    private static final int SLOTS = 3;

    private static final int KINK = 1;
    private static final int PAIR = 2;
    private static final int TRIANGLE = 3;

    private final Tape tape = new Tape();
    private final Reader reader = new Reader();
    private final Rows rows = new Rows();
    private final Drawing drawing = new Drawing();
    private final Arcs arcs = new Arcs();
    private final Bracket bracket = new Bracket();
    private final Bracket slotBracket = new Bracket();
    private final Past past = new Past();
    private final Rows[] slots = new Rows[SLOTS];
    private final boolean[] held = new boolean[SLOTS];
    private final Rows trial = new Rows();
    private final Drawing trialDrawing = new Drawing();
    private final Slides slides = new Slides();
    private boolean bracketKnown;
    private boolean freeingKnown;
    private int freeing;
    private int place = NONE;

    public KnotRows() {
        for (int slot = 0; slot < SLOTS; slot++) {
            slots[slot] = new Rows();
        }
    }

    public int feed(int a, int b, int c, int d, int e) {
        if (tape.length + 20 > MOST_BYTES) {
            return NONE;
        }
        tape.put(a);
        tape.put(b);
        tape.put(c);
        tape.put(d);
        tape.put(e);
        return tape.length;
    }

    public int back(int n) {
        if (n < 0 || n > tape.length) {
            return NONE;
        }
        tape.length -= n;
        return tape.length;
    }

    public int read() {
        boolean stands = reader.reads(tape, trial, trialDrawing);
        tape.length = 0;
        if (!stands) {
            place = reader.faultAt;
            return reader.fault;
        }
        place = NONE;
        past.forget();
        for (int slot = 0; slot < SLOTS; slot++) {
            held[slot] = false;
        }
        rows.copy(trial);
        changed();
        return 0;
    }

    public int place() {
        return place;
    }

    public int out(int face) {
        int kind = kindOfFace(face);
        if (kind != KINK && kind != PAIR) {
            return NONE;
        }
        past.keep(rows);
        rows.drop(drawing.crossingsAt(face));
        changed();
        return rows.crossings;
    }

    public boolean slide(int face) {
        if (kindOfFace(face) != TRIANGLE) {
            return false;
        }
        past.keep(rows);
        rows.exchange(drawing, face);
        changed();
        return true;
    }

    public boolean kink(int edge, boolean over, boolean plus) {
        if (rows.crossings >= MOST_CROSSINGS || edge < 0 || edge >= rows.edges()) {
            return false;
        }
        past.keep(rows);
        rows.curl(edge, over, plus);
        changed();
        return true;
    }

    public int loosen() {
        trial.copy(rows);
        int gone = trial.shed(trialDrawing);
        if (gone > 0) {
            past.keep(rows);
            rows.copy(trial);
            changed();
        }
        return gone;
    }

    public boolean mirror() {
        if (rows.rings == 0) {
            return false;
        }
        past.keep(rows);
        rows.turnOver(rows.allCrossings());
        changed();
        return true;
    }

    public boolean round(int ring) {
        if (ring < 0 || ring >= rows.rings) {
            return false;
        }
        past.keep(rows);
        rows.reverse(ring, drawing);
        changed();
        return true;
    }

    public boolean switches(int crossing) {
        if (crossing < 0 || crossing >= rows.crossings) {
            return false;
        }
        past.keep(rows);
        rows.turnOver(1 << crossing);
        changed();
        return true;
    }

    public boolean sum(int slot) {
        if (!holds(slot) || !rows.canTake(slots[slot])) {
            return false;
        }
        past.keep(rows);
        rows.take(slots[slot]);
        changed();
        return true;
    }

    public boolean undo() {
        if (!past.bringBack(rows)) {
            return false;
        }
        changed();
        return true;
    }

    public int ring(int ring, int i) {
        if (ring < 0 || ring >= rows.rings) {
            return NONE;
        }
        int passes = rows.first[ring + 1] - rows.first[ring];
        if (i == NONE) {
            return passes;
        }
        if (i < 0 || i >= passes) {
            return NONE;
        }
        int p = rows.first[ring] + i;
        return 2 * rows.pass[p] + (rows.sign[rows.crossingOf(p)] > 0 ? 1 : 0);
    }

    public int crossing(int crossing, int what) {
        if (crossing < 0 || crossing >= rows.crossings) {
            return OTHERS;
        }
        switch (what) {
            case 0:
                return rows.sign[crossing];
            case 1:
            case 2:
            case 3:
            case 4:
                return drawing.edgeAt(crossing, what - 1);
            case 5:
                return drawing.ringOf[drawing.overAt[crossing]];
            case 6:
                return drawing.ringOf[drawing.underAt[crossing]];
            case 7:
                return arcs.arcOf[drawing.overAt[crossing]];
            default:
                return OTHERS;
        }
    }

    public int face(int face, int what) {
        if (face == NONE) {
            return drawing.faces;
        }
        if (face < 0 || face >= drawing.faces || what < 0) {
            return NONE;
        }
        int corners = drawing.corners(face);
        if (what == 0) {
            return corners;
        }
        if (what == 1) {
            return drawing.kind[face];
        }
        return what - 2 < corners ? drawing.walk[drawing.faceStart[face] + what - 2] : NONE;
    }

    public int loops(int state) {
        if (rows.rings == 0 || state < 0 || state > rows.allCrossings()) {
            return NONE;
        }
        return drawing.loopsOf(rows, state);
    }

    public int coefficient(int e, boolean knotted) {
        Bracket own = ownBracket();
        return knotted ? own.knottedAt(e) : own.at(e);
    }

    public int winding(int one, int other) {
        if (one < 0 || one >= rows.rings || other < 0 || other >= rows.rings || one == other) {
            return OTHERS;
        }
        int signs = 0;
        for (int c = 0; c < rows.crossings; c++) {
            int above = drawing.ringOf[drawing.overAt[c]];
            int below = drawing.ringOf[drawing.underAt[c]];
            if (above == one && below == other || above == other && below == one) {
                signs += rows.sign[c];
            }
        }
        return signs / 2;
    }

    public long colourings(int p) {
        if (p != 2 && p != 3 && p != 5 && p != 7 && p != 11 && p != 13) {
            return NONE;
        }
        return arcs.colouringsBy(p, rows, drawing);
    }

    public int freed(int what) {
        if (what != 0 && what != 1) {
            return NONE;
        }
        if (!freeingKnown) {
            freeing = fewestSwitches();
            freeingKnown = true;
        }
        return what == 0 && freeing >= 0 ? Integer.bitCount(freeing) : freeing;
    }

    public int looser(int n) {
        if (n < 0 || n > MOST_SLIDES) {
            return NONE;
        }
        return slides.reachFewer(rows, n) ? 1 : 0;
    }

    public int alike(int slot, int what) {
        if (!holds(slot) || what < 0 || what > 2) {
            return NONE;
        }
        if (what == 2) {
            return rows.same(slots[slot]) ? 1 : 0;
        }
        trialDrawing.trace(slots[slot]);
        slotBracket.addUp(slots[slot], trialDrawing);
        return ownBracket().knottedAlike(slotBracket, what == 1) ? 1 : 0;
    }

    public boolean hold(int slot) {
        if (slot < 0 || slot >= SLOTS) {
            return false;
        }
        slots[slot].copy(rows);
        held[slot] = true;
        return true;
    }

    public boolean restore(int slot) {
        if (!holds(slot)) {
            return false;
        }
        past.forget();
        rows.copy(slots[slot]);
        changed();
        return true;
    }

    public int count(int what) {
        switch (what) {
            case 0:
                return rows.rings;
            case 1:
                return rows.crossings;
            case 2:
                return rows.edges();
            case 3:
                return drawing.faces;
            case 4:
                return drawing.partsOf(rows);
            case 5:
                return rows.writhe();
            case 6:
                return arcs.arcs;
            case 7:
                return arcs.determinant(rows, drawing);
            case 8:
                return ownBracket().span();
            case 9:
                return rows.looseRings();
            case 10:
                return drawing.facesOfKind(KINK);
            case 11:
                return drawing.facesOfKind(PAIR);
            case 12:
                return drawing.facesOfKind(TRIANGLE);
            case 13:
                return rows.takesTurns() ? 1 : 0;
            case 14:
                return tape.length;
            case 15:
                return past.kept;
            case 16:
                return slotsHeld();
            default:
                return OTHERS;
        }
    }

    /** Faces and arcs are asked for by most calls, so they are drawn at once; the dear sums wait. */
    private void changed() {
        drawing.trace(rows);
        arcs.number(rows);
        bracketKnown = false;
        freeingKnown = false;
    }

    private boolean holds(int slot) {
        return slot >= 0 && slot < SLOTS && held[slot];
    }

    private int slotsHeld() {
        int some = 0;
        for (int slot = 0; slot < SLOTS; slot++) {
            some += held[slot] ? 1 : 0;
        }
        return some;
    }

    private int kindOfFace(int face) {
        return face >= 0 && face < drawing.faces ? drawing.kind[face] : 0;
    }

    private Bracket ownBracket() {
        if (!bracketKnown) {
            bracket.addUp(rows, drawing);
            bracketKnown = true;
        }
        return bracket;
    }

    /** The bits of the fewest CROSSINGS by which all comes loose, NEVER_FREE if there are none. */
    private int fewestSwitches() {
        for (int size = 0; size <= rows.crossings; size++) {
            for (int bits = 0; bits <= rows.allCrossings(); bits++) {
                if (Integer.bitCount(bits) == size && comesLoose(bits)) {
                    return bits;
                }
            }
        }
        return NEVER_FREE;
    }

    private boolean comesLoose(int bits) {
        trial.copy(rows);
        trial.turnOver(bits);
        trial.shed(trialDrawing);
        return trial.crossings == 0;
    }

    /** RINGS with their PASSES, ring by ring; a PASS is 2 times its CROSSING, 1 more if over. */
    private static final class Rows {
        int rings;
        int crossings;
        /** Where each RING's PASSES begin; behind the last one, where they end. */
        final int[] first = new int[MOST_RINGS + 1];
        final int[] pass = new int[MOST_PASSES];
        final int[] sign = new int[MOST_CROSSINGS];

        void copy(Rows from) {
            rings = from.rings;
            crossings = from.crossings;
            System.arraycopy(from.first, 0, first, 0, MOST_RINGS + 1);
            System.arraycopy(from.pass, 0, pass, 0, MOST_PASSES);
            System.arraycopy(from.sign, 0, sign, 0, MOST_CROSSINGS);
        }

        boolean same(Rows other) {
            boolean alike = rings == other.rings && crossings == other.crossings;
            for (int ring = 0; alike && ring <= rings; ring++) {
                alike = first[ring] == other.first[ring];
            }
            for (int p = 0; alike && p < edges(); p++) {
                alike = pass[p] == other.pass[p];
            }
            for (int c = 0; alike && c < crossings; c++) {
                alike = sign[c] == other.sign[c];
            }
            return alike;
        }

        int edges() {
            return 2 * crossings;
        }

        int allCrossings() {
            return (1 << crossings) - 1;
        }

        int crossingOf(int p) {
            return pass[p] >> 1;
        }

        boolean isOver(int p) {
            return (pass[p] & 1) == 1;
        }

        int writhe() {
            int signs = 0;
            for (int c = 0; c < crossings; c++) {
                signs += sign[c];
            }
            return signs;
        }

        int looseRings() {
            int loose = 0;
            for (int ring = 0; ring < rings; ring++) {
                loose += first[ring] == first[ring + 1] ? 1 : 0;
            }
            return loose;
        }

        boolean takesTurns() {
            for (int ring = 0; ring < rings; ring++) {
                int last = first[ring + 1] - 1;
                for (int p = first[ring]; p <= last; p++) {
                    int next = p < last ? p + 1 : first[ring];
                    if (isOver(p) == isOver(next)) {
                        return false;
                    }
                }
            }
            return true;
        }

        /** SWITCHED at the CROSSINGS of these bits. */
        void turnOver(int bits) {
            for (int p = 0; p < edges(); p++) {
                pass[p] ^= bits >> crossingOf(p) & 1;
            }
            for (int c = 0; c < crossings; c++) {
                sign[c] = (bits >> c & 1) == 1 ? -sign[c] : sign[c];
            }
        }

        void reverse(int ring, Drawing drawing) {
            for (int c = 0; c < crossings; c++) {
                boolean above = drawing.ringOf[drawing.overAt[c]] == ring;
                boolean below = drawing.ringOf[drawing.underAt[c]] == ring;
                sign[c] = above != below ? -sign[c] : sign[c];
            }
            int low = first[ring] + 1;
            for (int high = first[ring + 1] - 1; low < high; high--) {
                swap(low, high);
                low++;
            }
        }

        /** The EDGES of a TRIANGLE share no PASS, so the order of the swaps does not matter. */
        void exchange(Drawing drawing, int face) {
            for (int i = drawing.faceStart[face]; i < drawing.faceStart[face + 1]; i++) {
                int edge = drawing.walk[i] >> 1;
                swap(edge, drawing.behind[edge]);
            }
        }

        private void swap(int p, int q) {
            int kept = pass[p];
            pass[p] = pass[q];
            pass[q] = kept;
        }

        /** A new KINK on an EDGE, which begins at the PASS of its own number. */
        void curl(int edge, boolean over, boolean plus) {
            for (int p = edges() - 1; p > edge; p--) {
                pass[p + 2] = pass[p];
            }
            pass[edge + 1] = 2 * crossings + (over ? 1 : 0);
            pass[edge + 2] = 2 * crossings + (over ? 0 : 1);
            for (int ring = 1; ring <= rings; ring++) {
                first[ring] += first[ring] > edge ? 2 : 0;
            }
            sign[crossings] = plus ? 1 : -1;
            crossings++;
        }

        /** The CROSSINGS of these bits go. */
        void drop(int gone) {
            int from = 0;
            int to = 0;
            for (int ring = 0; ring < rings; ring++) {
                int end = first[ring + 1];
                first[ring] = to;
                for (; from < end; from++) {
                    int c = crossingOf(from);
                    if ((gone >> c & 1) == 0) {
                        pass[to] = pass[from] - 2 * goneAhead(gone, c);
                        to++;
                    }
                }
            }
            first[rings] = to;
            for (int c = 0; c < crossings; c++) {
                if ((gone >> c & 1) == 0) {
                    sign[c - goneAhead(gone, c)] = sign[c];
                }
            }
            crossings = to / 2;
        }

        private static int goneAhead(int gone, int crossing) {
            return Integer.bitCount(gone & ((1 << crossing) - 1));
        }

        /** All is LOOSENED: how many CROSSINGS went. */
        int shed(Drawing drawing) {
            int before = crossings;
            for (int step = 0; step < MOST_CROSSINGS && crossings > 0; step++) {
                drawing.trace(this);
                int face = drawing.firstToGo();
                if (face == NONE) {
                    break;
                }
                drop(drawing.crossingsAt(face));
            }
            return before - crossings;
        }

        boolean canTake(Rows other) {
            return rings > 0 && other.rings > 0
                && rings + other.rings - 1 <= MOST_RINGS
                && crossings + other.crossings <= MOST_CROSSINGS;
        }

        /** The SUM with the other. */
        void take(Rows other) {
            int end = edges();
            int own = first[1];
            int more = other.first[1];
            for (int p = end - 1; p >= own; p--) {
                pass[p + more] = pass[p];
            }
            for (int p = 0; p < other.edges(); p++) {
                pass[p < more ? own + p : end + p] = other.pass[p] + 2 * crossings;
            }
            for (int ring = 1; ring <= rings; ring++) {
                first[ring] += more;
            }
            for (int ring = 1; ring < other.rings; ring++) {
                first[rings + ring] = end + other.first[ring + 1];
            }
            for (int c = 0; c < other.crossings; c++) {
                sign[crossings + c] = other.sign[c];
            }
            rings += other.rings - 1;
            crossings += other.crossings;
        }
    }

    /**
     * How the rows lie on a plane. A WAY is an EDGE gone along: 2 times its number, 1 more against
     * its way. An END is 4 times its CROSSING and 0 .. 3 for S, E, N, W.
     */
    private static final class Drawing {
        private static final int S = 0;
        private static final int E = 1;
        private static final int W = 3;

        final int[] behind = new int[MOST_PASSES];
        final int[] ahead = new int[MOST_PASSES];
        final int[] ringOf = new int[MOST_PASSES];
        final int[] overAt = new int[MOST_CROSSINGS];
        final int[] underAt = new int[MOST_CROSSINGS];
        /** The WAY by which one leaves a CROSSING at an END, and the END at which a WAY comes. */
        final int[] leave = new int[MOST_WAYS];
        final int[] reach = new int[MOST_WAYS];
        int faces;
        final int[] walk = new int[MOST_WAYS];
        final int[] faceStart = new int[MOST_WAYS + 1];
        final int[] kind = new int[MOST_WAYS];

        void trace(Rows rows) {
            joinPasses(rows);
            joinEnds(rows);
            walkFaces(2 * rows.edges());
            for (int face = 0; face < faces; face++) {
                kind[face] = judged(rows, face);
            }
        }

        private void joinPasses(Rows rows) {
            for (int ring = 0; ring < rows.rings; ring++) {
                int from = rows.first[ring];
                int end = rows.first[ring + 1];
                for (int p = from; p < end; p++) {
                    int next = p + 1 < end ? p + 1 : from;
                    behind[p] = next;
                    ahead[next] = p;
                    ringOf[p] = ring;
                }
            }
        }

        private void joinEnds(Rows rows) {
            for (int p = 0; p < rows.edges(); p++) {
                int c = rows.crossingOf(p);
                int in = S;
                if (rows.isOver(p)) {
                    in = rows.sign[c] > 0 ? W : E;
                    overAt[c] = p;
                } else {
                    underAt[c] = p;
                }
                joinEnd(4 * c + in, 2 * ahead[p] + 1);
                joinEnd(4 * c + (in ^ 2), 2 * p);
            }
        }

        private void joinEnd(int end, int way) {
            leave[end] = way;
            reach[way ^ 1] = end;
        }

        private void walkFaces(int ways) {
            long walked = 0;
            int at = 0;
            faces = 0;
            for (int start = 0; start < ways; start++) {
                if ((walked >> start & 1) == 1) {
                    continue;
                }
                faceStart[faces] = at;
                int way = start;
                for (int i = 0; i < ways && (walked >> way & 1) == 0; i++) {
                    walked |= 1L << way;
                    walk[at] = way;
                    at++;
                    int end = reach[way];
                    way = leave[end & ~3 | end + 1 & 3];
                }
                faces++;
            }
            faceStart[faces] = at;
        }

        private int judged(Rows rows, int face) {
            int corners = corners(face);
            if (corners == 1) {
                return KINK;
            }
            if (corners > 3 || Integer.bitCount(crossingsAt(face)) != corners) {
                return 0;
            }
            int levels = 0;
            for (int i = faceStart[face]; i < faceStart[face + 1]; i++) {
                int edge = walk[i] >> 1;
                levels |= 1 << (rows.pass[edge] & 1) + (rows.pass[behind[edge]] & 1);
            }
            if (corners == 2) {
                return levels == 5 ? PAIR : 0;
            }
            return levels == 7 ? TRIANGLE : 0;
        }

        int corners(int face) {
            return faceStart[face + 1] - faceStart[face];
        }

        /** The bits of the CROSSINGS at a FACE's CORNERS. */
        int crossingsAt(int face) {
            int met = 0;
            for (int i = faceStart[face]; i < faceStart[face + 1]; i++) {
                met |= 1 << (reach[walk[i]] >> 2);
            }
            return met;
        }

        int edgeAt(int crossing, int end) {
            return leave[4 * crossing + end] >> 1;
        }

        int facesOfKind(int wanted) {
            int many = 0;
            for (int face = 0; face < faces; face++) {
                many += kind[face] == wanted ? 1 : 0;
            }
            return many;
        }

        /** The FACE that goes next when all is LOOSENED. */
        int firstToGo() {
            int pair = NONE;
            for (int face = 0; face < faces; face++) {
                if (kind[face] == KINK) {
                    return face;
                }
                if (kind[face] == PAIR && pair == NONE) {
                    pair = face;
                }
            }
            return pair;
        }

        /** RINGS that meet belong to one PART, so it is enough to join rings. */
        int partsOf(Rows rows) {
            int parts = 0;
            int seen = 0;
            for (int ring = 0; ring < rows.rings; ring++) {
                if (rows.first[ring] < rows.first[ring + 1] && (seen >> ring & 1) == 0) {
                    seen |= partWith(rows, ring);
                    parts++;
                }
            }
            return parts;
        }

        private int partWith(Rows rows, int ring) {
            int part = 1 << ring;
            for (int turn = 1; turn < MOST_RINGS; turn++) {
                for (int c = 0; c < rows.crossings; c++) {
                    int both = 1 << ringOf[overAt[c]] | 1 << ringOf[underAt[c]];
                    part |= (part & both) != 0 ? both : 0;
                }
            }
            return part;
        }

        boolean isPlane(Rows rows) {
            return faces == rows.crossings + 2 * partsOf(rows);
        }

        /** LOOPS of a STATE: S with E (the END ^ 1) the first way, S with W (the END ^ 3) the second. */
        int loopsOf(Rows rows, int state) {
            int many = rows.looseRings();
            int edges = rows.edges();
            int gone = 0;
            for (int edge = 0; edge < edges; edge++) {
                if ((gone >> edge & 1) == 1) {
                    continue;
                }
                int way = 2 * edge;
                for (int i = 0; i < edges && (gone >> (way >> 1) & 1) == 0; i++) {
                    gone |= 1 << (way >> 1);
                    int end = reach[way];
                    way = leave[(state >> (end >> 2) & 1) == 1 ? end ^ 3 : end ^ 1];
                }
                many++;
            }
            return many;
        }
    }

    /** The ARC of each EDGE, and the rows of numbers that CROSSINGS make of ARCS. */
    private static final class Arcs {
        int arcs;
        final int[] arcOf = new int[MOST_PASSES];
        private final long[][] row = new long[MOST_CROSSINGS][MOST_ARCS];

        void number(Rows rows) {
            int told = 0;
            arcs = rows.crossings;
            for (int ring = 0; ring < rows.rings; ring++) {
                int unders = 0;
                for (int p = rows.first[ring]; p < rows.first[ring + 1]; p++) {
                    unders += rows.isOver(p) ? 0 : 1;
                }
                if (unders == 0) {
                    fill(rows, ring, arcs);
                    arcs++;
                } else {
                    fill(rows, ring, told + unders - 1);
                    told = numberRing(rows, ring, told);
                }
            }
        }

        private void fill(Rows rows, int ring, int arc) {
            for (int p = rows.first[ring]; p < rows.first[ring + 1]; p++) {
                arcOf[p] = arc;
            }
        }

        /** EDGES ahead of the first PASS under stay with the ring's last ARC, which begins behind. */
        private int numberRing(Rows rows, int ring, int told) {
            int next = told;
            for (int p = rows.first[ring]; p < rows.first[ring + 1]; p++) {
                next += rows.isOver(p) ? 0 : 1;
                if (next > told) {
                    arcOf[p] = next - 1;
                }
            }
            return next;
        }

        private void writeRows(Rows rows, Drawing drawing) {
            for (int c = 0; c < rows.crossings; c++) {
                for (int arc = 0; arc < MOST_ARCS; arc++) {
                    row[c][arc] = 0;
                }
                int under = drawing.underAt[c];
                row[c][arcOf[drawing.overAt[c]]] += 2;
                row[c][arcOf[under]] -= 1;
                row[c][arcOf[drawing.ahead[under]]] -= 1;
            }
        }

        int determinant(Rows rows, Drawing drawing) {
            if (rows.crossings == 0) {
                return rows.rings == 1 ? 1 : 0;
            }
            if (arcs > rows.crossings) {
                return 0;
            }
            writeRows(rows, drawing);
            return (int) Math.abs(eliminated(rows.crossings - 1));
        }

        /** Bareiss: each division has no rest, so all stays whole. */
        private long eliminated(int size) {
            long last = 1;
            long sign = 1;
            for (int k = 0; k < size; k++) {
                int pivot = pivotRow(k, k, size);
                if (pivot == NONE) {
                    return 0;
                }
                if (pivot != k) {
                    swapRows(pivot, k);
                    sign = -sign;
                }
                for (int i = k + 1; i < size; i++) {
                    for (int j = k + 1; j < size; j++) {
                        long crossed = row[i][j] * row[k][k] - row[i][k] * row[k][j];
                        row[i][j] = last == 0 ? 0 : crossed / last;
                    }
                }
                last = row[k][k];
            }
            return sign * last;
        }

        private int pivotRow(int column, int from, int end) {
            for (int i = from; i < end; i++) {
                if (row[i][column] != 0) {
                    return i;
                }
            }
            return NONE;
        }

        private void swapRows(int one, int other) {
            for (int j = 0; j < MOST_ARCS; j++) {
                long kept = row[one][j];
                row[one][j] = row[other][j];
                row[other][j] = kept;
            }
        }

        long colouringsBy(int p, Rows rows, Drawing drawing) {
            writeRows(rows, drawing);
            for (int c = 0; c < rows.crossings; c++) {
                for (int arc = 0; arc < arcs; arc++) {
                    row[c][arc] = Math.floorMod(row[c][arc], (long) p);
                }
            }
            int free = arcs - rank(p, rows.crossings);
            long many = 1;
            for (int i = 0; i < free; i++) {
                many *= p;
            }
            return many;
        }

        private int rank(int p, int height) {
            int rank = 0;
            for (int column = 0; column < arcs && rank < height; column++) {
                int pivot = pivotRow(column, rank, height);
                if (pivot == NONE) {
                    continue;
                }
                swapRows(pivot, rank);
                for (int i = rank + 1; i < height; i++) {
                    clear(i, rank, column, p);
                }
                rank++;
            }
            return rank;
        }

        private void clear(int i, int by, int column, int p) {
            long here = row[i][column];
            long there = row[by][column];
            for (int j = column; j < arcs; j++) {
                row[i][j] = Math.floorMod(row[i][j] * there - row[by][j] * here, (long) p);
            }
        }
    }

    /** The BRACKET's coefficients, and KNOTTED read from them by the WRITHE. */
    private static final class Bracket {
        /** No power reaches it: 8 CROSSINGS and 12 LOOPS make 30, the WRITHE 24 more. */
        private static final int REACH = 60;
        private static final int MOST_LOOPS = 12;

        private final int[] coefficients = new int[2 * REACH + 1];
        /** How many STATES have so many second ways and so many LOOPS. */
        private final int[] tally = new int[(MOST_CROSSINGS + 1) * (MOST_LOOPS + 1)];
        private int writhe;

        void addUp(Rows rows, Drawing drawing) {
            for (int i = 0; i < coefficients.length; i++) {
                coefficients[i] = 0;
            }
            writhe = rows.writhe();
            if (rows.rings == 0) {
                return;
            }
            tallyStates(rows, drawing);
            for (int seconds = 0; seconds <= rows.crossings; seconds++) {
                for (int loops = 1; loops <= MOST_LOOPS; loops++) {
                    int many = tally[seconds * (MOST_LOOPS + 1) + loops];
                    if (many > 0) {
                        addPower(many, rows.crossings - 2 * seconds, loops - 1);
                    }
                }
            }
        }

        private void tallyStates(Rows rows, Drawing drawing) {
            for (int i = 0; i < tally.length; i++) {
                tally[i] = 0;
            }
            for (int state = 0; state <= rows.allCrossings(); state++) {
                int loops = drawing.loopsOf(rows, state);
                if (loops <= MOST_LOOPS) {
                    tally[Integer.bitCount(state) * (MOST_LOOPS + 1) + loops]++;
                }
            }
        }

        /** Adds so many times A to the e times (less A to the 2, less A to the -2) to the power. */
        private void addPower(int many, int e, int power) {
            int term = power % 2 == 0 ? many : -many;
            for (int j = 0; j <= power; j++) {
                int at = REACH + e + 2 * power - 4 * j;
                if (at >= 0 && at < coefficients.length) {
                    coefficients[at] += term;
                }
                term = term * (power - j) / (j + 1);
            }
        }

        int at(int e) {
            return e < -REACH || e > REACH ? 0 : coefficients[REACH + e];
        }

        int knottedAt(int e) {
            if (e < -REACH || e > REACH) {
                return 0;
            }
            int bracketed = at(e + 3 * writhe);
            return writhe % 2 == 0 ? bracketed : -bracketed;
        }

        boolean knottedAlike(Bracket other, boolean exchanged) {
            for (int e = -REACH; e <= REACH; e++) {
                if (knottedAt(e) != other.knottedAt(exchanged ? -e : e)) {
                    return false;
                }
            }
            return true;
        }

        int span() {
            int least = 0;
            int greatest = 0;
            boolean met = false;
            for (int e = -REACH; e <= REACH; e++) {
                if (at(e) != 0) {
                    least = met ? least : e;
                    greatest = e;
                    met = true;
                }
            }
            return greatest - least;
        }
    }

    /** What things done by hand have changed, the last 40. */
    private static final class Past {
        int kept;
        private int next;
        private final Rows[] earlier = new Rows[MOST_UNDONE];

        Past() {
            for (int i = 0; i < MOST_UNDONE; i++) {
                earlier[i] = new Rows();
            }
        }

        void forget() {
            kept = 0;
        }

        void keep(Rows now) {
            earlier[next].copy(now);
            next = next + 1 < MOST_UNDONE ? next + 1 : 0;
            kept = Math.min(kept + 1, MOST_UNDONE);
        }

        boolean bringBack(Rows into) {
            if (kept == 0) {
                return false;
            }
            next = next > 0 ? next - 1 : MOST_UNDONE - 1;
            kept--;
            into.copy(earlier[next]);
            return true;
        }
    }

    /** Tries SLIDES one behind the other. */
    private static final class Slides {
        private final Rows[] rows = new Rows[MOST_SLIDES + 1];
        private final Drawing[] drawings = new Drawing[MOST_SLIDES + 1];

        Slides() {
            for (int depth = 0; depth <= MOST_SLIDES; depth++) {
                rows[depth] = new Rows();
                drawings[depth] = new Drawing();
            }
        }

        boolean reachFewer(Rows from, int most) {
            rows[0].copy(from);
            return finds(this, 0, most);
        }

        /**
         * A SLIDE keeps how many CROSSINGS there are, so there are fewer behind it just if a KINK or
         * a PAIR can go then.
         */
        private static boolean finds(Slides tried, int depth, int most) {
            Rows here = tried.rows[depth];
            Drawing drawing = tried.drawings[depth];
            drawing.trace(here);
            if (drawing.firstToGo() != NONE) {
                return true;
            }
            if (depth >= most || depth >= MOST_SLIDES) {
                return false;
            }
            for (int face = 0; face < drawing.faces; face++) {
                if (drawing.kind[face] == TRIANGLE) {
                    tried.rows[depth + 1].copy(here);
                    tried.rows[depth + 1].exchange(drawing, face);
                    if (finds(tried, depth + 1, most)) {
                        return true;
                    }
                }
            }
            return false;
        }
    }

    /** The bytes that are fed, and their TOKENS one by one. */
    private static final class Tape {
        static final int END = 0;
        static final int NO_TOKEN = 1;
        static final int RING = 2;
        static final int BRAID = 3;
        static final int OVER = 4;
        static final int UNDER = 5;
        static final int INT = 6;
        static final int SEMICOLON = 7;
        static final int PLUS = 8;
        static final int MINUS = 9;

        int length;
        int kind;
        int value;
        int place;
        private int next;
        private final byte[] bytes = new byte[MOST_BYTES];

        void put(int four) {
            for (int shift = 24; shift >= 0 && length < MOST_BYTES; shift -= 8) {
                bytes[length] = (byte) (four >> shift);
                length++;
            }
        }

        void begin() {
            next = 0;
        }

        /** The next TOKEN: its kind, its place and, of an INT, its value. */
        void step() {
            for (int i = 0; i < MOST_BYTES && isBlank(byteAt(next)); i++) {
                next++;
            }
            place = next;
            int sign = byteAt(next);
            if (sign == NONE) {
                kind = END;
            } else if (isLetter(sign)) {
                stepWord();
            } else if (isDigit(sign)) {
                stepInt();
            } else {
                next++;
                kind = sign == ';' ? SEMICOLON : sign == '+' ? PLUS : sign == '-' ? MINUS : NO_TOKEN;
            }
        }

        private void stepWord() {
            for (int i = 0; i < MOST_BYTES && isLetter(byteAt(next)); i++) {
                next++;
            }
            if (spells("ring")) {
                kind = RING;
            } else if (spells("braid")) {
                kind = BRAID;
            } else if (spells("over")) {
                kind = OVER;
            } else if (spells("under")) {
                kind = UNDER;
            } else {
                kind = NO_TOKEN;
            }
        }

        private boolean spells(String word) {
            boolean alike = next - place == word.length();
            for (int i = 0; alike && i < word.length(); i++) {
                alike = byteAt(place + i) == word.charAt(i);
            }
            return alike;
        }

        private void stepInt() {
            value = 0;
            for (int i = 0; i < MOST_BYTES && isDigit(byteAt(next)); i++) {
                value = 10 * value + byteAt(next) - '0';
                next++;
            }
            kind = next - place <= 4 ? INT : NO_TOKEN;
        }

        private int byteAt(int i) {
            return i >= 0 && i < length ? bytes[i] & 255 : NONE;
        }

        private static boolean isBlank(int sign) {
            return sign == 9 || sign == 10 || sign == 13 || sign == 32;
        }

        private static boolean isLetter(int sign) {
            return sign >= 'a' && sign <= 'z';
        }

        private static boolean isDigit(int sign) {
            return sign >= '0' && sign <= '9';
        }
    }

    /** Reads a text into rows, or tells its FAULT. */
    private static final class Reader {
        private static final int SYNTAX = 1;
        private static final int ROOM = 2;
        private static final int TWICE = 3;
        private static final int LACKS = 4;
        private static final int WRONG = 5;
        private static final int PLANE = 6;

        private static final int AT_START = 0;
        private static final int IN_RING = 1;
        private static final int AT_NUMBER = 2;
        private static final int AT_SIGN = 3;
        private static final int BEHIND_RING = 4;
        private static final int AT_STRANDS = 5;
        private static final int IN_BRAID = 6;
        private static final int BEHIND_MINUS = 7;
        private static final int BEHIND_BRAID = 8;

        /** A PASS is told by three of at most 400 TOKENS. */
        private static final int MOST_TOLD = 134;
        private static final int MOST_NUMBER = 99;

        int fault;
        int faultAt;
        private boolean braid;
        private int rings;
        private int strands;
        private int strandsAt;
        private int unlike;
        private int told;
        private boolean over;
        private final int[] first = new int[MOST_RINGS + 1];
        private final int[] number = new int[MOST_TOLD];
        private final int[] numberAt = new int[MOST_TOLD];
        private final int[] crossingOf = new int[MOST_TOLD];
        private final boolean[] isOver = new boolean[MOST_TOLD];
        private final boolean[] isPlus = new boolean[MOST_TOLD];
        private final int[] unlikeNumber = new int[MOST_CROSSINGS];
        private final int[] times = new int[MOST_CROSSINGS];
        private final int[] earlier = new int[MOST_CROSSINGS];

        boolean reads(Tape tape, Rows into, Drawing drawing) {
            braid = false;
            rings = 0;
            unlike = 0;
            told = 0;
            if (!takesTokens(tape)) {
                return false;
            }
            if (braid) {
                if (!braidStands()) {
                    return false;
                }
                weave(into);
            } else {
                if (!ringsStand()) {
                    return false;
                }
                string(into);
            }
            drawing.trace(into);
            return drawing.isPlane(into) || fails(PLANE, tape.length);
        }

        /** Always false, so that it can be told and returned in one. */
        private boolean fails(int which, int at) {
            fault = which;
            faultAt = at;
            return false;
        }

        private boolean takesTokens(Tape tape) {
            int state = AT_START;
            tape.begin();
            for (int i = 0; i <= MOST_TOKENS; i++) {
                tape.step();
                if (tape.kind == Tape.END) {
                    boolean whole = state == AT_START || state == BEHIND_RING || state == BEHIND_BRAID;
                    return whole || fails(SYNTAX, tape.length);
                }
                int behind = stateBehind(state, tape.kind);
                if (behind == NONE) {
                    return fails(SYNTAX, tape.place);
                }
                if (i == MOST_TOKENS || !takes(state, tape)) {
                    return fails(ROOM, tape.place);
                }
                state = behind;
            }
            return false;
        }

        /** NONE if no text goes on with such a TOKEN. */
        private static int stateBehind(int state, int kind) {
            switch (state) {
                case AT_START:
                    return kind == Tape.RING ? IN_RING : kind == Tape.BRAID ? AT_STRANDS : NONE;
                case IN_RING:
                    if (kind == Tape.SEMICOLON) {
                        return BEHIND_RING;
                    }
                    return kind == Tape.OVER || kind == Tape.UNDER ? AT_NUMBER : NONE;
                case AT_NUMBER:
                    return kind == Tape.INT ? AT_SIGN : NONE;
                case AT_SIGN:
                    return kind == Tape.PLUS || kind == Tape.MINUS ? IN_RING : NONE;
                case BEHIND_RING:
                    return kind == Tape.RING ? IN_RING : NONE;
                case AT_STRANDS:
                    return kind == Tape.INT ? IN_BRAID : NONE;
                case IN_BRAID:
                    if (kind == Tape.SEMICOLON) {
                        return BEHIND_BRAID;
                    }
                    return kind == Tape.MINUS ? BEHIND_MINUS : kind == Tape.INT ? IN_BRAID : NONE;
                case BEHIND_MINUS:
                    return kind == Tape.INT ? IN_BRAID : NONE;
                default:
                    return NONE;
            }
        }

        /** False if there is no room for what a TOKEN that fits begins. */
        private boolean takes(int state, Tape tape) {
            switch (tape.kind) {
                case Tape.RING:
                    return takesRing();
                case Tape.BRAID:
                    braid = true;
                    return true;
                case Tape.OVER:
                case Tape.UNDER:
                    over = tape.kind == Tape.OVER;
                    return true;
                case Tape.PLUS:
                    return takesSign(true);
                case Tape.MINUS:
                    return state == IN_BRAID ? told < MOST_CROSSINGS : takesSign(false);
                case Tape.INT:
                    return takesInt(state, tape);
                default:
                    return true;
            }
        }

        private boolean takesRing() {
            if (rings >= MOST_RINGS) {
                return false;
            }
            first[rings] = told;
            rings++;
            return true;
        }

        private boolean takesSign(boolean plus) {
            if (told >= MOST_TOLD) {
                return false;
            }
            isPlus[told] = plus;
            told++;
            return true;
        }

        private boolean takesInt(int state, Tape tape) {
            if (state == AT_STRANDS) {
                strands = tape.value;
                strandsAt = tape.place;
                return true;
            }
            if (told >= MOST_TOLD) {
                return false;
            }
            number[told] = tape.value;
            numberAt[told] = tape.place;
            if (state == AT_NUMBER) {
                isOver[told] = over;
                return takesNumber();
            }
            return told < MOST_CROSSINGS && takesSign(state == IN_BRAID);
        }

        private boolean takesNumber() {
            int c = 0;
            for (; c < unlike; c++) {
                if (unlikeNumber[c] == number[told]) {
                    break;
                }
            }
            if (c >= MOST_CROSSINGS) {
                return false;
            }
            unlikeNumber[c] = number[told];
            unlike = Math.max(unlike, c + 1);
            crossingOf[told] = c;
            return true;
        }

        private boolean ringsStand() {
            for (int c = 0; c < unlike; c++) {
                times[c] = 0;
            }
            for (int i = 0; i < told; i++) {
                int c = crossingOf[i];
                if (number[i] > MOST_NUMBER) {
                    return fails(WRONG, numberAt[i]);
                }
                if (times[c] > 0 && !isPartner(earlier[c], i, times[c])) {
                    return fails(TWICE, numberAt[i]);
                }
                earlier[c] = i;
                times[c]++;
            }
            for (int i = 0; i < told; i++) {
                if (times[crossingOf[i]] == 1) {
                    return fails(LACKS, numberAt[i]);
                }
            }
            return true;
        }

        private boolean isPartner(int one, int other, int met) {
            return met == 1 && isOver[one] != isOver[other] && isPlus[one] == isPlus[other];
        }

        /** Each CROSSING has stood twice, so all fits. */
        private void string(Rows into) {
            into.rings = rings;
            into.crossings = unlike;
            first[rings] = told;
            for (int ring = 0; ring <= rings; ring++) {
                into.first[ring] = first[ring];
            }
            for (int i = 0; i < told && i < MOST_PASSES; i++) {
                into.pass[i] = 2 * crossingOf[i] + (isOver[i] ? 1 : 0);
                into.sign[crossingOf[i]] = isPlus[i] ? 1 : -1;
            }
        }

        private boolean braidStands() {
            if (strands < 2 || strands > MOST_RINGS) {
                return fails(WRONG, strandsAt);
            }
            for (int i = 0; i < told; i++) {
                if (number[i] < 1 || number[i] >= strands) {
                    return fails(WRONG, numberAt[i]);
                }
            }
            return true;
        }

        private void weave(Rows into) {
            into.rings = 0;
            into.crossings = told;
            for (int c = 0; c < told; c++) {
                into.sign[c] = isPlus[c] ? 1 : -1;
            }
            int gone = 0;
            int at = 0;
            for (int begin = 1; begin <= strands; begin++) {
                if ((gone >> begin & 1) == 1) {
                    continue;
                }
                into.first[into.rings] = at;
                into.rings++;
                int where = begin;
                for (int turn = 0; turn < strands && (gone >> where & 1) == 0; turn++) {
                    gone |= 1 << where;
                    for (int c = 0; c < told; c++) {
                        int to = placeBehind(c, where);
                        if (to != where) {
                            into.pass[at] = 2 * c + (isPlus[c] == to > where ? 1 : 0);
                            at++;
                        }
                        where = to;
                    }
                }
            }
            into.first[into.rings] = at;
        }

        private int placeBehind(int crossing, int where) {
            if (where == number[crossing]) {
                return where + 1;
            }
            return where == number[crossing] + 1 ? where - 1 : where;
        }
    }
}
