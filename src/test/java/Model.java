import java.util.ArrayList;
import java.util.HashMap;
import java.util.HashSet;
import java.util.LinkedHashMap;
import java.util.List;
import java.util.Map;
import java.util.Set;
import java.util.TreeMap;
import java.util.TreeSet;

/**
 * The document once more, written with lists, sets and maps and without any care for speed, so that
 * the class can be held against something that was not written in the same way.
 */
final class Model {
    record Pass(int crossing, boolean over) {
    }

    record Fault(int place, int number) implements Comparable<Fault> {
        public int compareTo(Fault other) {
            return place != other.place ? Integer.compare(place, other.place) : Integer.compare(number, other.number);
        }
    }

    record Token(String text, int place) {
        boolean isInt() {
            return text.matches("[0-9]{1,4}");
        }

        boolean fits(String pattern) {
            return text.matches(pattern);
        }
    }

    /** One look at a knot's passes and at which comes behind which. */
    static final class View {
        final List<Pass> all;
        final List<Integer> signs;
        final int[] next;
        final int[] ring;

        View(Knot knot) {
            all = knot.all();
            signs = knot.signs;
            next = new int[all.size()];
            ring = new int[all.size()];
            int from = 0;
            for (int r = 0; r < knot.rings.size(); r++) {
                int size = knot.rings.get(r).size();
                for (int i = 0; i < size; i++) {
                    next[from + i] = from + (i + 1) % size;
                    ring[from + i] = r;
                }
                from += size;
            }
        }

        int edgeInto(int crossing, boolean over) {
            int pass = all.indexOf(new Pass(crossing, over));
            for (int e = 0; e < next.length; e++) {
                if (next[e] == pass) {
                    return e;
                }
            }
            return -1;
        }

        /** For S, E, N, W: the directed edge that comes by it (2 e, or 2 e and 1 against its way). */
        int[] comers(int c) {
            int south = 2 * edgeInto(c, false);
            int north = 2 * all.indexOf(new Pass(c, false)) + 1;
            int in = 2 * edgeInto(c, true);
            int out = 2 * all.indexOf(new Pass(c, true)) + 1;
            return signs.get(c) > 0 ? new int[] {south, out, north, in} : new int[] {south, in, north, out};
        }

        List<List<Integer>> faces() {
            Map<Integer, Integer> turns = new HashMap<>();
            for (int c = 0; c < signs.size(); c++) {
                int[] comers = comers(c);
                for (int end = 0; end < 4; end++) {
                    turns.put(comers[end], comers[(end + 1) % 4] ^ 1);
                }
            }
            List<List<Integer>> faces = new ArrayList<>();
            Set<Integer> gone = new HashSet<>();
            for (int way = 0; way < 2 * next.length; way++) {
                if (gone.contains(way)) {
                    continue;
                }
                List<Integer> face = new ArrayList<>();
                int at = way;
                do {
                    face.add(at);
                    at = turns.get(at);
                } while (at != way);
                gone.addAll(face);
                faces.add(face);
            }
            return faces;
        }

        Set<Integer> crossingsOf(List<Integer> face) {
            Set<Integer> met = new TreeSet<>();
            face.forEach(way -> met.add(all.get(way % 2 == 0 ? next[way / 2] : way / 2).crossing()));
            return met;
        }

        int kind(List<Integer> face) {
            if (face.size() == 1) {
                return 1;
            }
            if (face.size() > 3 || crossingsOf(face).size() != face.size()) {
                return 0;
            }
            int over = 0;
            int under = 0;
            for (int way : face) {
                boolean from = all.get(way / 2).over();
                boolean to = all.get(next[way / 2]).over();
                over += from && to ? 1 : 0;
                under += from || to ? 0 : 1;
            }
            return over == 1 && under == 1 ? face.size() : 0;
        }
    }

    static final class Knot {
        final List<List<Pass>> rings = new ArrayList<>();
        final List<Integer> signs = new ArrayList<>();

        Knot copy() {
            Knot other = new Knot();
            for (List<Pass> ring : rings) {
                other.rings.add(new ArrayList<>(ring));
            }
            other.signs.addAll(signs);
            return other;
        }

        boolean same(Knot other) {
            return rings.equals(other.rings) && signs.equals(other.signs);
        }

        List<Pass> all() {
            List<Pass> all = new ArrayList<>();
            rings.forEach(all::addAll);
            return all;
        }

        View view() {
            return new View(this);
        }

        List<List<Integer>> faces() {
            return view().faces();
        }

        int kind(List<Integer> face) {
            return view().kind(face);
        }

        Set<Integer> crossingsOf(List<Integer> face) {
            return view().crossingsOf(face);
        }

        int edges() {
            return 2 * signs.size();
        }

        int nextOf(int edge) {
            return view().next[edge];
        }

        int ringOfEdge(int edge) {
            return view().ring[edge];
        }

        int beginOf(int ring) {
            int from = 0;
            for (int r = 0; r < ring; r++) {
                from += rings.get(r).size();
            }
            return from;
        }

        int where(int crossing, boolean over) {
            return all().indexOf(new Pass(crossing, over));
        }

        int edgeInto(int crossing, boolean over) {
            return view().edgeInto(crossing, over);
        }

        int[] comers(int crossing) {
            return view().comers(crossing);
        }

        int kinds(int kind) {
            int many = 0;
            for (List<Integer> face : faces()) {
                many += kind(face) == kind ? 1 : 0;
            }
            return many;
        }

        int parts() {
            List<Set<Integer>> parts = new ArrayList<>();
            for (int e = 0; e < edges(); e++) {
                Set<Integer> joined = new TreeSet<>(List.of(all().get(e).crossing()));
                joined.add(all().get(nextOf(e)).crossing());
                List<Set<Integer>> apart = new ArrayList<>();
                for (Set<Integer> part : parts) {
                    boolean meets = part.stream().anyMatch(joined::contains);
                    if (meets) {
                        joined.addAll(part);
                    } else {
                        apart.add(part);
                    }
                }
                apart.add(joined);
                parts = apart;
            }
            return parts.size();
        }

        boolean plane() {
            return faces().size() == signs.size() + 2 * parts();
        }

        int loose() {
            int loose = 0;
            for (List<Pass> ring : rings) {
                loose += ring.isEmpty() ? 1 : 0;
            }
            return loose;
        }

        int loops(int state) {
            int[] name = new int[edges()];
            for (int e = 0; e < name.length; e++) {
                name[e] = e;
            }
            View view = view();
            for (int c = 0; c < signs.size(); c++) {
                int[] comers = view.comers(c);
                boolean second = (state >> c & 1) == 1;
                join(name, comers[0] / 2, comers[second ? 3 : 1] / 2);
                join(name, comers[2] / 2, comers[second ? 1 : 3] / 2);
            }
            Set<Integer> names = new HashSet<>();
            for (int n : name) {
                names.add(n);
            }
            return names.size() + loose();
        }

        private static void join(int[] name, int a, int b) {
            int from = name[a];
            int to = name[b];
            for (int e = 0; e < name.length; e++) {
                name[e] = name[e] == from ? to : name[e];
            }
        }

        TreeMap<Integer, Long> bracket() {
            TreeMap<Integer, Long> sum = new TreeMap<>();
            if (rings.isEmpty()) {
                return sum;
            }
            for (int state = 0; state < 1 << signs.size(); state++) {
                TreeMap<Integer, Long> term = new TreeMap<>();
                term.put(signs.size() - 2 * Integer.bitCount(state), 1L);
                int loops = loops(state);
                for (int loop = 1; loop < loops; loop++) {
                    term = times(term, Map.of(2, -1L, -2, -1L));
                }
                term.forEach((e, k) -> sum.merge(e, k, Long::sum));
            }
            sum.values().removeIf(k -> k == 0);
            return sum;
        }

        TreeMap<Integer, Long> knotted() {
            TreeMap<Integer, Long> sum = bracket();
            int writhe = writhe();
            for (int i = 0; i < Math.abs(writhe); i++) {
                sum = times(sum, Map.of(writhe > 0 ? -3 : 3, -1L));
            }
            return sum;
        }

        static TreeMap<Integer, Long> times(Map<Integer, Long> one, Map<Integer, Long> other) {
            TreeMap<Integer, Long> product = new TreeMap<>();
            one.forEach((e, k) -> other.forEach((f, l) -> product.merge(e + f, k * l, Long::sum)));
            product.values().removeIf(k -> k == 0);
            return product;
        }

        int writhe() {
            return signs.stream().mapToInt(s -> s).sum();
        }

        /** Each ARC as its EDGES, in their order along it; a LOOSE RING's is empty. */
        List<List<Integer>> arcs() {
            TreeMap<Integer, List<Integer>> begun = new TreeMap<>();
            List<List<Integer>> bare = new ArrayList<>();
            int from = 0;
            for (List<Pass> ring : rings) {
                boolean unders = false;
                for (int i = 0; i < ring.size(); i++) {
                    if (!ring.get(i).over()) {
                        unders = true;
                        List<Integer> arc = new ArrayList<>();
                        int at = i;
                        do {
                            arc.add(from + at);
                            at = (at + 1) % ring.size();
                        } while (ring.get(at).over());
                        begun.put(from + i, arc);
                    }
                }
                if (!unders) {
                    List<Integer> arc = new ArrayList<>();
                    for (int i = 0; i < ring.size(); i++) {
                        arc.add(from + i);
                    }
                    bare.add(arc);
                }
                from += ring.size();
            }
            List<List<Integer>> arcs = new ArrayList<>(begun.values());
            arcs.addAll(bare);
            return arcs;
        }

        int arcOf(int edge) {
            List<List<Integer>> arcs = arcs();
            for (int a = 0; a < arcs.size(); a++) {
                if (arcs.get(a).contains(edge)) {
                    return a;
                }
            }
            return -1;
        }

        /** Of each CROSSING: the ARC over it and the two that end there. */
        int[][] meetings() {
            int[][] meetings = new int[signs.size()][];
            for (int c = 0; c < signs.size(); c++) {
                meetings[c] = new int[] {arcOf(where(c, true)), arcOf(edgeInto(c, false)), arcOf(where(c, false))};
            }
            return meetings;
        }

        long determinant() {
            int n = signs.size();
            int arcs = arcs().size();
            if (rings.isEmpty()) {
                return 0;
            }
            if (n == 0) {
                return rings.size() == 1 ? 1 : 0;
            }
            if (arcs > n) {
                return 0;
            }
            long[][] m = new long[n][n];
            int[][] meetings = meetings();
            for (int c = 0; c < n; c++) {
                m[c][meetings[c][0]] += 2;
                m[c][meetings[c][1]] -= 1;
                m[c][meetings[c][2]] -= 1;
            }
            return Math.abs(laplace(m, 0, n - 1, 0));
        }

        /** By the first row, then the next one, over the columns that are not taken yet. */
        private static long laplace(long[][] m, int row, int size, int taken) {
            if (row == size) {
                return 1;
            }
            long sum = 0;
            int sign = 1;
            for (int column = 0; column < size; column++) {
                if ((taken >> column & 1) == 0) {
                    if (m[row][column] != 0) {
                        sum += sign * m[row][column] * laplace(m, row + 1, size, taken | 1 << column);
                    }
                    sign = -sign;
                }
            }
            return sum;
        }

        /** -2 if there are too many ways to try them all. */
        long colourings(int p) {
            int arcs = arcs().size();
            if (Math.pow(p, arcs) > 30000) {
                return -2;
            }
            int[][] meetings = meetings();
            int[] colour = new int[arcs];
            long good = 0;
            long ways = Math.round(Math.pow(p, arcs));
            for (long way = 0; way < ways; way++) {
                long rest = way;
                for (int a = 0; a < arcs; a++) {
                    colour[a] = (int) (rest % p);
                    rest /= p;
                }
                boolean fits = true;
                for (int[] m : meetings) {
                    fits &= (2 * colour[m[0]] - colour[m[1]] - colour[m[2]]) % p == 0;
                }
                good += fits ? 1 : 0;
            }
            return good;
        }

        int winding(int one, int other) {
            int sum = 0;
            for (int c = 0; c < signs.size(); c++) {
                Set<Integer> met = new TreeSet<>(List.of(ringOfEdge(where(c, true))));
                met.add(ringOfEdge(where(c, false)));
                sum += met.equals(new TreeSet<>(List.of(one, other))) ? signs.get(c) : 0;
            }
            return sum / 2;
        }

        boolean takesTurns() {
            for (int e = 0; e < edges(); e++) {
                if (all().get(e).over() == all().get(nextOf(e)).over()) {
                    return false;
                }
            }
            return true;
        }

        void drop(Set<Integer> gone) {
            List<Integer> left = new ArrayList<>();
            for (int c = 0; c < signs.size(); c++) {
                if (!gone.contains(c)) {
                    left.add(c);
                }
            }
            for (List<Pass> ring : rings) {
                ring.removeIf(p -> gone.contains(p.crossing()));
                ring.replaceAll(p -> new Pass(left.indexOf(p.crossing()), p.over()));
            }
            List<Integer> kept = new ArrayList<>();
            left.forEach(c -> kept.add(signs.get(c)));
            signs.clear();
            signs.addAll(kept);
        }

        void slide(List<Integer> face) {
            List<Pass> old = all();
            List<Pass> flat = all();
            for (int way : face) {
                flat.set(way / 2, old.get(nextOf(way / 2)));
                flat.set(nextOf(way / 2), old.get(way / 2));
            }
            int from = 0;
            for (List<Pass> ring : rings) {
                for (int i = 0; i < ring.size(); i++) {
                    ring.set(i, flat.get(from + i));
                }
                from += ring.size();
            }
        }

        void kink(int edge, boolean over, boolean plus) {
            int ring = ringOfEdge(edge);
            int at = edge - beginOf(ring) + 1;
            int c = signs.size();
            rings.get(ring).add(at, new Pass(c, !over));
            rings.get(ring).add(at, new Pass(c, over));
            signs.add(plus ? 1 : -1);
        }

        int loosen() {
            int before = signs.size();
            while (true) {
                Set<Integer> gone = null;
                View view = view();
                List<List<Integer>> faces = view.faces();
                for (int kind = 1; kind <= 2 && gone == null; kind++) {
                    for (List<Integer> face : faces) {
                        if (gone == null && view.kind(face) == kind) {
                            gone = view.crossingsOf(face);
                        }
                    }
                }
                if (gone == null) {
                    return before - signs.size();
                }
                drop(gone);
            }
        }

        void switches(int c) {
            for (List<Pass> ring : rings) {
                ring.replaceAll(p -> p.crossing() == c ? new Pass(c, !p.over()) : p);
            }
            signs.set(c, -signs.get(c));
        }

        void round(int r) {
            for (int c = 0; c < signs.size(); c++) {
                int over = ringOfEdge(where(c, true));
                int under = ringOfEdge(where(c, false));
                if (over != under && (over == r || under == r)) {
                    signs.set(c, -signs.get(c));
                }
            }
            List<Pass> ring = rings.get(r);
            List<Pass> turned = new ArrayList<>();
            for (int i = 0; i < ring.size(); i++) {
                turned.add(ring.get((ring.size() - i) % ring.size()));
            }
            rings.set(r, turned);
        }

        boolean sum(Knot other) {
            if (rings.isEmpty() || other.rings.isEmpty() || rings.size() + other.rings.size() > 5
                || signs.size() + other.signs.size() > 8) {
                return false;
            }
            int n = signs.size();
            for (int r = 0; r < other.rings.size(); r++) {
                if (r > 0) {
                    rings.add(new ArrayList<>());
                }
                List<Pass> to = rings.get(r == 0 ? 0 : rings.size() - 1);
                other.rings.get(r).forEach(p -> to.add(new Pass(p.crossing() + n, p.over())));
            }
            signs.addAll(other.signs);
            return true;
        }

        int freed(int what) {
            int best = -2;
            for (int bits = 0; bits < 1 << signs.size(); bits++) {
                Knot tried = copy();
                for (int c = 0; c < signs.size(); c++) {
                    if ((bits >> c & 1) == 1) {
                        tried.switches(c);
                    }
                }
                tried.loosen();
                if (tried.signs.isEmpty() && (best < 0 || Integer.bitCount(bits) < Integer.bitCount(best))) {
                    best = bits;
                }
            }
            return best < 0 || what == 1 ? best : Integer.bitCount(best);
        }

        boolean looser(int n, int now) {
            Knot tried = copy();
            tried.loosen();
            if (tried.signs.size() < now) {
                return true;
            }
            for (List<Integer> face : n > 0 ? faces() : new ArrayList<List<Integer>>()) {
                if (kind(face) == 3) {
                    Knot slid = copy();
                    slid.slide(face);
                    if (slid.looser(n - 1, now)) {
                        return true;
                    }
                }
            }
            return false;
        }
    }

    // ---- texts ----

    Knot now = new Knot();
    final Knot[] slots = new Knot[3];
    final List<Knot> past = new ArrayList<>();
    String tape = "";
    int place = -1;

    /** The tape's tokens; what is no token stands there, too, and fits no pattern. */
    static List<Token> tokens(String text) {
        List<Token> tokens = new ArrayList<>();
        int at = 0;
        while (at < text.length()) {
            char sign = text.charAt(at);
            int end = at + 1;
            if (sign == 9 || sign == 10 || sign == 13 || sign == 32) {
                at = end;
                continue;
            }
            String run = sign >= 'a' && sign <= 'z' ? "[a-z]+" : sign >= '0' && sign <= '9' ? "[0-9]+" : null;
            while (run != null && end < text.length() && text.substring(at, end + 1).matches(run)) {
                end++;
            }
            tokens.add(new Token(text.substring(at, end), at));
            at = end;
        }
        return tokens;
    }

    int read() {
        String text = tape;
        tape = "";
        TreeSet<Fault> faults = new TreeSet<>();
        Knot knot = text.stripLeading().startsWith("braid") && !tokens(text).isEmpty()
            && tokens(text).get(0).text().equals("braid") ? braid(text, faults) : rings(text, faults);
        if (!faults.isEmpty()) {
            place = faults.first().place();
            return faults.first().number();
        }
        place = -1;
        now = knot;
        past.clear();
        java.util.Arrays.fill(slots, null);
        return 0;
    }

    private static void limit(List<Token> tokens, TreeSet<Fault> faults) {
        if (tokens.size() > 400 && tokens.get(400).fits("[a-z]+|[0-9]{1,4}|[;+-]")) {
            faults.add(new Fault(tokens.get(400).place(), 2));
        }
    }

    private static Knot rings(String text, TreeSet<Fault> faults) {
        List<Token> tokens = tokens(text);
        limit(tokens, faults);
        List<Token> numbers = new ArrayList<>();
        Set<Integer> unlike = new HashSet<>();
        Map<Integer, List<String>> told = new LinkedHashMap<>();
        Knot knot = new Knot();
        String expected = "ring";
        String way = "";
        List<List<String[]>> passes = new ArrayList<>();
        for (Token token : tokens) {
            if (!token.fits(expected)) {
                faults.add(new Fault(token.place(), 1));
                return null;
            }
            if (token.text().equals("ring")) {
                if (passes.size() == 4) {
                    faults.add(new Fault(token.place(), 2));
                }
                passes.add(new ArrayList<>());
                expected = "over|under|;";
            } else if (token.fits("over|under")) {
                way = token.text();
                expected = "[0-9]{1,4}";
            } else if (token.isInt()) {
                if (unlike.add(Integer.parseInt(token.text())) && unlike.size() == 9) {
                    faults.add(new Fault(token.place(), 2));
                }
                numbers.add(token);
                expected = "[+-]";
            } else if (token.fits("[+-]")) {
                Token number = numbers.get(numbers.size() - 1);
                passes.get(passes.size() - 1).add(new String[] {way, number.text(), token.text(), "" + number.place()});
                expected = "over|under|;";
            } else {
                expected = "ring";
            }
        }
        if (!expected.equals("ring")) {
            faults.add(new Fault(text.length(), 1));
        }
        if (!faults.isEmpty()) {
            return null;
        }
        check(passes, told, faults);
        if (!faults.isEmpty()) {
            return null;
        }
        List<Integer> names = new ArrayList<>(told.keySet());
        for (int name : names) {
            knot.signs.add(told.get(name).get(0).endsWith("+") ? 1 : -1);
        }
        for (List<String[]> ring : passes) {
            knot.rings.add(new ArrayList<>());
            for (String[] pass : ring) {
                knot.rings.get(knot.rings.size() - 1).add(new Pass(names.indexOf(Integer.parseInt(pass[1])), pass[0].equals("over")));
            }
        }
        if (!knot.plane()) {
            faults.add(new Fault(text.length(), 6));
        }
        return knot;
    }

    private static void check(List<List<String[]>> rings, Map<Integer, List<String>> told, TreeSet<Fault> faults) {
        for (List<String[]> ring : rings) {
            for (String[] pass : ring) {
                int name = Integer.parseInt(pass[1]);
                int at = Integer.parseInt(pass[3]);
                if (name > 99) {
                    faults.add(new Fault(at, 5));
                }
                List<String> ones = told.computeIfAbsent(name, n -> new ArrayList<>());
                String partner = (pass[0].equals("over") ? "under" : "over") + pass[2];
                if (ones.size() > 1 || ones.size() == 1 && !ones.get(0).equals(partner)) {
                    faults.add(new Fault(at, 3));
                }
                ones.add(pass[0] + pass[2]);
            }
        }
        if (!faults.isEmpty()) {
            return;
        }
        for (List<String[]> ring : rings) {
            for (String[] pass : ring) {
                if (told.get(Integer.parseInt(pass[1])).size() == 1) {
                    faults.add(new Fault(Integer.parseInt(pass[3]), 4));
                }
            }
        }
    }

    private static Knot braid(String text, TreeSet<Fault> faults) {
        List<Token> tokens = tokens(text);
        limit(tokens, faults);
        int strands = -1;
        TreeSet<Fault> wrong = new TreeSet<>();
        List<Integer> moves = new ArrayList<>();
        String expected = "braid";
        int sign = 1;
        for (Token token : tokens) {
            if (!token.fits(expected)) {
                faults.add(new Fault(token.place(), 1));
                return null;
            }
            if (token.text().equals("braid")) {
                expected = "[0-9]{1,4}";
            } else if (token.text().equals(";")) {
                expected = "nothing at all";
            } else if (strands < 0) {
                strands = Integer.parseInt(token.text());
                if (strands < 2 || strands > 4) {
                    wrong.add(new Fault(token.place(), 5));
                }
                expected = "[0-9]{1,4}|-|;";
            } else {
                if (sign > 0 && moves.size() == 8) {
                    faults.add(new Fault(token.place(), 2));
                }
                if (token.text().equals("-")) {
                    sign = -1;
                    expected = "[0-9]{1,4}";
                } else {
                    int i = Integer.parseInt(token.text());
                    if (i < 1 || i >= strands) {
                        wrong.add(new Fault(token.place(), 5));
                    }
                    moves.add(sign * i);
                    sign = 1;
                    expected = "[0-9]{1,4}|-|;";
                }
            }
        }
        if (!expected.startsWith("nothing")) {
            faults.add(new Fault(text.length(), 1));
        }
        if (faults.isEmpty()) {
            faults.addAll(wrong);
        }
        return faults.isEmpty() ? woven(strands, moves) : null;
    }

    /** All strands go down the braid together, each with the list of what it passes. */
    private static Knot woven(int strands, List<Integer> moves) {
        Knot knot = new Knot();
        List<List<Pass>> passes = new ArrayList<>();
        List<Integer> at = new ArrayList<>();
        for (int i = 0; i < strands; i++) {
            passes.add(new ArrayList<>());
            at.add(i);
        }
        for (int c = 0; c < moves.size(); c++) {
            int i = Math.abs(moves.get(c)) - 1;
            boolean plus = moves.get(c) > 0;
            knot.signs.add(plus ? 1 : -1);
            passes.get(at.get(i)).add(new Pass(c, plus));
            passes.get(at.get(i + 1)).add(new Pass(c, !plus));
            at.set(i, at.set(i + 1, at.get(i)));
        }
        Set<Integer> used = new HashSet<>();
        for (int begin = 0; begin < strands; begin++) {
            if (used.contains(begin)) {
                continue;
            }
            List<Pass> ring = new ArrayList<>();
            int strand = begin;
            do {
                used.add(strand);
                ring.addAll(passes.get(strand));
                strand = at.indexOf(strand);
            } while (strand != begin);
            knot.rings.add(ring);
        }
        return knot;
    }

    // ---- calls ----

    private void done(Knot before) {
        past.add(before);
        if (past.size() > 40) {
            past.remove(0);
        }
    }

    int feed(String twenty) {
        if (tape.length() + 20 > 2000) {
            return -1;
        }
        tape += twenty;
        return tape.length();
    }

    int back(int n) {
        if (n < 0 || n > tape.length()) {
            return -1;
        }
        tape = tape.substring(0, tape.length() - n);
        return tape.length();
    }

    private List<Integer> faceOf(int face) {
        List<List<Integer>> faces = now.faces();
        return face < 0 || face >= faces.size() ? null : faces.get(face);
    }

    int out(int face) {
        List<Integer> gone = faceOf(face);
        if (gone == null || now.kind(gone) != 1 && now.kind(gone) != 2) {
            return -1;
        }
        done(now.copy());
        now.drop(now.crossingsOf(gone));
        return now.signs.size();
    }

    boolean slide(int face) {
        List<Integer> slid = faceOf(face);
        if (slid == null || now.kind(slid) != 3) {
            return false;
        }
        done(now.copy());
        now.slide(slid);
        return true;
    }

    boolean kink(int edge, boolean over, boolean plus) {
        if (now.signs.size() == 8 || edge < 0 || edge >= now.edges()) {
            return false;
        }
        done(now.copy());
        now.kink(edge, over, plus);
        return true;
    }

    int loosen() {
        Knot before = now.copy();
        int gone = now.loosen();
        if (gone > 0) {
            done(before);
        }
        return gone;
    }

    boolean mirror() {
        if (now.rings.isEmpty()) {
            return false;
        }
        done(now.copy());
        for (int c = 0; c < now.signs.size(); c++) {
            now.switches(c);
        }
        return true;
    }

    boolean round(int ring) {
        if (ring < 0 || ring >= now.rings.size()) {
            return false;
        }
        done(now.copy());
        now.round(ring);
        return true;
    }

    boolean switches(int crossing) {
        if (crossing < 0 || crossing >= now.signs.size()) {
            return false;
        }
        done(now.copy());
        now.switches(crossing);
        return true;
    }

    private Knot slot(int slot) {
        return slot < 0 || slot > 2 ? null : slots[slot];
    }

    boolean sum(int slot) {
        Knot before = now.copy();
        boolean summed = slot(slot) != null && now.sum(slot(slot));
        if (summed) {
            done(before);
        }
        return summed;
    }

    boolean undo() {
        if (past.isEmpty()) {
            return false;
        }
        now = past.remove(past.size() - 1);
        return true;
    }

    int ring(int ring, int i) {
        if (ring < 0 || ring >= now.rings.size()) {
            return -1;
        }
        List<Pass> passes = now.rings.get(ring);
        if (i == -1) {
            return passes.size();
        }
        if (i < 0 || i >= passes.size()) {
            return -1;
        }
        Pass pass = passes.get(i);
        return 4 * pass.crossing() + (pass.over() ? 2 : 0) + (now.signs.get(pass.crossing()) > 0 ? 1 : 0);
    }

    int crossing(int c, int what) {
        if (c < 0 || c >= now.signs.size() || what < 0 || what > 7) {
            return -100000;
        }
        if (what == 0) {
            return now.signs.get(c);
        }
        if (what < 5) {
            return now.comers(c)[what - 1] / 2;
        }
        int edge = now.where(c, what != 6);
        return what == 7 ? now.arcOf(edge) : now.ringOfEdge(edge);
    }

    int face(int face, int what) {
        if (face == -1) {
            return now.faces().size();
        }
        List<Integer> ways = faceOf(face);
        if (ways == null || what < 0) {
            return -1;
        }
        if (what < 2) {
            return what == 0 ? ways.size() : now.kind(ways);
        }
        return what - 2 < ways.size() ? ways.get(what - 2) : -1;
    }

    int loops(int state) {
        return now.rings.isEmpty() || state < 0 || state >= 1 << now.signs.size() ? -1 : now.loops(state);
    }

    Map<Integer, Long> coefficients(boolean knotted) {
        return knotted ? now.knotted() : now.bracket();
    }

    int winding(int one, int other) {
        int rings = now.rings.size();
        if (one < 0 || other < 0 || one >= rings || other >= rings || one == other) {
            return -100000;
        }
        return now.winding(one, other);
    }

    long colourings(int p) {
        return List.of(2, 3, 5, 7, 11, 13).contains(p) ? now.colourings(p) : -1;
    }

    int freed(int what) {
        return what == 0 || what == 1 ? now.freed(what) : -1;
    }

    int looser(int n) {
        return n < 0 || n > 3 ? -1 : now.looser(n, now.signs.size()) ? 1 : 0;
    }

    int alike(int slot, int what) {
        if (slot(slot) == null || what < 0 || what > 2) {
            return -1;
        }
        if (what == 2) {
            return now.same(slot(slot)) ? 1 : 0;
        }
        TreeMap<Integer, Long> theirs = new TreeMap<>();
        slot(slot).knotted().forEach((e, k) -> theirs.put(what == 1 ? -e : e, k));
        return now.knotted().equals(theirs) ? 1 : 0;
    }

    boolean hold(int slot) {
        if (slot < 0 || slot > 2) {
            return false;
        }
        slots[slot] = now.copy();
        return true;
    }

    boolean restore(int slot) {
        if (slot(slot) == null) {
            return false;
        }
        now = slot(slot).copy();
        past.clear();
        return true;
    }

    long count(int what) {
        TreeMap<Integer, Long> bracket = what == 8 ? now.bracket() : null;
        switch (what) {
            case 0: return now.rings.size();
            case 1: return now.signs.size();
            case 2: return now.edges();
            case 3: return now.faces().size();
            case 4: return now.parts();
            case 5: return now.writhe();
            case 6: return now.arcs().size();
            case 7: return now.determinant();
            case 8: return bracket.isEmpty() ? 0 : bracket.lastKey() - bracket.firstKey();
            case 9: return now.loose();
            case 10:
            case 11:
            case 12: return now.kinds(what - 9);
            case 13: return now.takesTurns() ? 1 : 0;
            case 14: return tape.length();
            case 15: return past.size();
            case 16: return java.util.Arrays.stream(slots).filter(s -> s != null).count();
            default: return -100000;
        }
    }
}
