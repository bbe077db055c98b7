import java.util.ArrayList;
import java.util.List;
import java.util.Map;

/**
 * Long runs of calls, told by a row of numbers that is always the same, on the class and on the
 * model beside it: each answer of the one must be that of the other.
 */
public final class ModelTest {
    private static final int RUNS = 400;
    private static final int CALLS = 500;

    private final Check check;
    private final KnotRows x = new KnotRows();
    private final Model model = new Model();
    private long state;

    private ModelTest(Check check, int run) {
        this.check = check;
        state = 88172645463325252L + 7919L * run;
    }

    public static void main(String[] args) {
        Check check = new Check("model");
        for (int run = 0; run < RUNS; run++) {
            ModelTest test = new ModelTest(check, run);
            for (int call = 0; call < CALLS; call++) {
                test.call(call);
            }
        }
        check.end();
    }

    private int any(int below) {
        state ^= state << 13;
        state ^= state >>> 7;
        state ^= state << 17;
        return (int) Long.remainderUnsigned(state, below);
    }

    private boolean coin() {
        return any(2) == 0;
    }

    /** Mostly what is there, sometimes what is next to it, seldom something far off. */
    private int about(int many) {
        int kind = any(30);
        if (kind == 0) {
            return new int[] {Integer.MIN_VALUE, Integer.MAX_VALUE, -2, 100, 1 << 16, -100000}[any(6)];
        }
        return kind < 4 ? any(many + 3) - 1 : any(Math.max(many, 1));
    }

    private void call(int number) {
        if (number % 60 == 0 || any(150) == 0) {
            feedAndRead(number % 60 == 0);
            return;
        }
        int kind = any(100);
        if (kind < 40) {
            move(any(12));
        } else if (kind < 97) {
            ask(any(13));
        } else {
            feedOrBack();
        }
    }

    private void feedOrBack() {
        if (coin()) {
            int n = about(60);
            check.due("back(" + n + ")", x.back(n), model.back(n));
        } else {
            feed("ring;ring over 1+;  ".substring(any(20)));
        }
        check.due("count(14)", x.count(14), model.count(14));
    }

    private void feed(String text) {
        for (int from = 0; from < text.length(); from += 20) {
            String twenty = (text + " ".repeat(20)).substring(from, from + 20);
            int[] words = new int[5];
            for (int i = 0; i < 20; i++) {
                words[i / 4] = words[i / 4] << 8 | twenty.charAt(i);
            }
            check.due("feed", x.feed(words[0], words[1], words[2], words[3], words[4]), model.feed(twenty));
        }
    }

    private void feedAndRead(boolean clean) {
        String text = coin() ? braid() : rings();
        if (any(3) == 0 && !clean) {
            text = spoilt(text);
        }
        if (clean) {
            check.due("back", x.back(x.count(14)), model.back((int) model.count(14)));
        }
        feed(text);
        if (coin()) {
            int n = Math.max(0, (20 - text.length() % 20) % 20);
            check.due("back", x.back(n), model.back(n));
        }
        check.due("read of " + text, x.read(), model.read());
        check.due("place of " + text, x.place(), model.place);
        for (int what = 0; what < 18; what++) {
            check.due("count(" + what + ")", x.count(what), model.count(what));
        }
    }

    private String blank() {
        return new String[] {" ", "", "\n", "\t ", " \r", " "}[any(6)];
    }

    private String braid() {
        int strands = any(20) == 0 ? any(7) : 2 + any(3);
        StringBuilder text = new StringBuilder("braid").append(blank()).append(strands).append(' ');
        int moves = any(15) == 0 ? 9 + any(2) : any(9);
        for (int i = 0; i < moves; i++) {
            int move = any(60) == 0 ? any(5) : 1 + any(Math.max(strands - 1, 1));
            text.append(any(3) == 0 ? "-" + blank() : "").append(move).append(' ').append(blank());
        }
        return text + ";" + blank();
    }

    /** What is there, with other INTS and loose rings, and in half of all cases with a flaw. */
    private String rings() {
        List<List<String[]>> rings = new ArrayList<>();
        int factor = 1 + any(11);
        int more = any(13);
        for (int ring = 0; ring < x.count(0); ring++) {
            rings.add(new ArrayList<>());
            for (int i = 0; i < x.ring(ring, -1); i++) {
                int pass = x.ring(ring, i);
                String number = "" + (pass / 4 * factor + more);
                rings.get(ring).add(new String[] {(pass & 2) != 0 ? "over" : "under", number, (pass & 1) != 0 ? "+" : "-"});
            }
        }
        for (int i = any(3) - rings.size() / 3; i > 0; i--) {
            rings.add(any(rings.size() + 1), new ArrayList<>());
        }
        if (coin() && x.count(1) > 0) {
            flaw(rings);
        }
        StringBuilder text = new StringBuilder(blank());
        for (List<String[]> ring : rings) {
            text.append("ring").append(blank().isEmpty() && ring.isEmpty() ? "" : " ");
            for (String[] pass : ring) {
                text.append(pass[0]).append(blank()).append(pass[1]).append(blank()).append(pass[2]).append(blank());
            }
            text.append(";").append(blank());
        }
        return text.toString();
    }

    private void flaw(List<List<String[]>> rings) {
        List<List<String[]>> full = new ArrayList<>(rings);
        full.removeIf(List::isEmpty);
        List<String[]> ring = full.get(any(full.size()));
        int i = any(ring.size());
        String[] pass = ring.get(i);
        String number = pass[1];
        switch (any(8)) {
            case 0 -> ring.remove(i);
            case 1 -> ring.add(any(ring.size()), pass.clone());
            case 2 -> pass[0] = pass[0].equals("over") ? "under" : "over";
            case 3 -> pass[2] = pass[2].equals("+") ? "-" : "+";
            case 4 -> pass[1] = "" + (any(3) * 50 + any(10));
            case 5 -> ring.add(any(ring.size()), ring.remove(i));
            case 6 -> full.get(any(full.size())).add(0, ring.remove(i));
            default -> full.forEach(some -> some.forEach(other -> {
                if (other[1].equals(number)) {
                    other[2] = other[2].equals("+") ? "-" : "+";
                }
            }));
        }
    }

    private String spoilt(String text) {
        int at = any(text.length() + 1);
        String with = new String[] {";", "+", "-", " 5 ", " 05 ", "12345", "ring", "over 3 + ", "under 3 +", "x", "!", "\u00e9", "100", "", " "}[any(15)];
        int cut = Math.min(text.length(), at + any(4));
        return text.substring(0, at) + with + text.substring(coin() ? at : cut);
    }

    private void move(int kind) {
        switch (kind) {
            case 0, 1, 2 -> {
                int edge = about(x.count(2));
                boolean over = coin();
                boolean plus = coin();
                check.due("kink", x.kink(edge, over, plus), model.kink(edge, over, plus));
            }
            case 3 -> {
                int face = about(x.count(3));
                check.due("out", x.out(face), model.out(face));
            }
            case 4 -> {
                for (int face = -1; face <= x.count(3); face++) {
                    check.due("slide", x.slide(face), model.slide(face));
                }
            }
            case 5 -> {
                if (any(4) == 0) {
                    check.due("loosen", x.loosen(), model.loosen());
                }
            }
            case 6 -> check.due("mirror", x.mirror(), model.mirror());
            case 7 -> {
                int ring = about(x.count(0));
                check.due("round", x.round(ring), model.round(ring));
            }
            case 8 -> {
                int crossing = about(x.count(1));
                check.due("switches", x.switches(crossing), model.switches(crossing));
            }
            case 9 -> {
                int slot = about(3);
                check.due("sum", x.sum(slot), model.sum(slot));
            }
            case 10 -> check.due("undo", x.undo(), model.undo());
            default -> {
                int slot = about(3);
                if (coin()) {
                    check.due("hold", x.hold(slot), model.hold(slot));
                } else {
                    check.due("restore", x.restore(slot), model.restore(slot));
                }
            }
        }
        if (any(4) == 0) {
            everyRow();
        }
    }

    private void everyRow() {
        check.due("count(0)", x.count(0), model.count(0));
        for (int ring = 0; ring < x.count(0); ring++) {
            for (int i = -1; i <= x.ring(ring, -1); i++) {
                check.due("ring(" + ring + ", " + i + ")", x.ring(ring, i), model.ring(ring, i));
            }
        }
        check.due("count(15)", x.count(15), model.count(15));
        check.due("count(16)", x.count(16), model.count(16));
    }

    private void ask(int kind) {
        int a;
        int b;
        switch (kind) {
            case 0 -> {
                a = about(x.count(0));
                b = about(x.ring(0, -1)) - any(2);
                check.due("ring(" + a + ", " + b + ")", x.ring(a, b), model.ring(a, b));
            }
            case 1 -> {
                a = about(x.count(1));
                b = about(8);
                check.due("crossing(" + a + ", " + b + ")", x.crossing(a, b), model.crossing(a, b));
            }
            case 2, 3 -> {
                a = about(x.count(3)) - any(10) / 9;
                b = about(6);
                check.due("face(" + a + ", " + b + ")", x.face(a, b), model.face(a, b));
            }
            case 4 -> {
                a = about(1 << x.count(1));
                check.due("loops(" + a + ")", x.loops(a), model.loops(a));
            }
            case 5 -> {
                if (any(4) == 0) {
                    boolean knotted = coin();
                    Map<Integer, Long> due = model.coefficients(knotted);
                    for (int e = -61; e <= 61; e++) {
                        check.due("coefficient(" + e + ")", x.coefficient(e, knotted), due.getOrDefault(e, 0L));
                    }
                }
            }
            case 6 -> {
                a = about(x.count(0));
                b = about(x.count(0));
                check.due("winding(" + a + ", " + b + ")", x.winding(a, b), model.winding(a, b));
            }
            case 7 -> {
                a = any(6) == 0 ? about(14) : new int[] {2, 3, 5, 7, 11, 13}[any(6)];
                long due = model.colourings(a);
                if (due != -2) {
                    check.due("colourings(" + a + ")", x.colourings(a), due);
                }
            }
            case 8 -> {
                if (any(12) == 0) {
                    a = about(2);
                    check.due("freed(" + a + ")", x.freed(a), model.freed(a));
                }
            }
            case 9 -> {
                if (any(3) == 0) {
                    a = about(4);
                    check.due("looser(" + a + ")", x.looser(a), model.looser(a));
                }
            }
            case 10 -> {
                a = about(3);
                b = about(3);
                check.due("alike(" + a + ", " + b + ")", x.alike(a, b), model.alike(a, b));
            }
            default -> {
                a = about(17);
                check.due("count(" + a + ")", x.count(a), model.count(a));
            }
        }
    }
}
