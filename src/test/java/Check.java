/** Counts answers that are due, and feeds texts byte by byte. */
final class Check {
    /** Numbers with which nothing is numbered. */
    private static final int[] FAR = {-2, -3, 100, 1 << 16, -100000, Integer.MIN_VALUE, Integer.MAX_VALUE};

    private final String about;
    private int asked;
    private int wrong;

    Check(String about) {
        this.about = about;
    }

    void due(String what, long got, long want) {
        asked++;
        if (got != want) {
            wrong++;
            System.out.println(about + ": " + what + " answered " + got + ", due is " + want);
        }
    }

    void due(String what, boolean got, boolean want) {
        due(what, got ? 1 : 0, want ? 1 : 0);
    }

    /** What is next to 0 .. many less 1, and what is far off. */
    static int[] outside(int many) {
        int[] outside = java.util.Arrays.copyOf(FAR, FAR.length + 2);
        outside[FAR.length] = -1;
        outside[FAR.length + 1] = many;
        return outside;
    }

    /** Ends the program, with exit code 1 if an answer was wrong. */
    void end() {
        System.out.println(about + ": " + asked + " answers, " + wrong + " wrong");
        if (wrong > 0 || asked == 0) {
            System.exit(1);
        }
    }

    /** A text comes on the tape; the last twenty bytes' rest is taken back. */
    static void feed(KnotRows x, String text) {
        for (int from = 0; from < text.length(); from += 20) {
            int[] word = new int[5];
            for (int i = 0; i < 20; i++) {
                int sign = from + i < text.length() ? text.charAt(from + i) : ' ';
                word[i / 4] = word[i / 4] << 8 | sign & 255;
            }
            x.feed(word[0], word[1], word[2], word[3], word[4]);
        }
        x.back((20 - text.length() % 20) % 20);
    }

    static int read(KnotRows x, String text) {
        feed(x, text);
        return x.read();
    }

    static KnotRows of(String text) {
        KnotRows x = new KnotRows();
        if (read(x, text) != 0) {
            throw new IllegalStateException("not a text: " + text);
        }
        return x;
    }

    void told(KnotRows x, String due) {
        boolean alike = told(x).equals(due);
        due("told is '" + told(x) + "', due is '" + due + "', alike", alike, true);
    }

    void row(String what, long[] got, long... due) {
        due(what + " has", got.length, due.length);
        for (int i = 0; i < got.length && i < due.length; i++) {
            due(what + " at " + i, got[i], due[i]);
        }
    }

    /** Of a text read by a new object: the number and the byte of its FAULT, and the empty tape. */
    void fault(String text, int number, int place) {
        fault(new KnotRows(), text, number, place);
    }

    void fault(KnotRows x, String text, int number, int place) {
        String shown = text.length() > 100 ? text.substring(0, 100) + " .. of " + text.length() : text;
        due("read of '" + shown + "'", read(x, text), number);
        due("place of '" + shown + "'", x.place(), place);
        due("tape behind '" + shown + "'", x.count(14), 0);
    }

    void fits(String text, String told) {
        fits(new KnotRows(), text, told);
    }

    void fits(KnotRows x, String text, String told) {
        fault(x, text, 0, KnotRows.NONE);
        told(x, told);
    }

    /**
     * A call that is refused: its answer, and that nothing has happened. 'before' is seen(x), told
     * ahead of the call, as Java works out its arguments one behind the other.
     */
    void refused(String what, KnotRows x, String before, long got, long due) {
        due(what, got, due);
        due(what + ": nothing has happened", seen(x).equals(before), true);
    }

    void refused(String what, KnotRows x, String before, boolean got) {
        refused(what, x, before, got ? 1 : 0, 0);
    }

    /** A thing done by hand is one thing more to undo, and all is told as by one that reads it. */
    void done(String what, KnotRows x, int things, boolean got) {
        due(what, got, true);
        due(what + ": things to undo", x.count(15), things);
        anew(what, x);
    }

    /** Whatever the rows were ahead, all is told of them as by a new object that reads them. */
    void anew(String what, KnotRows x) {
        KnotRows other = of(told(x));
        due(what + ": faces, sums and counts as of a new object", drawn(x).equals(drawn(other)), true);
        int[] number = new int[8];
        int numbers = 0;
        for (int ring = 0; ring < x.count(0); ring++) {
            for (int i = 0; i < x.ring(ring, KnotRows.NONE); i++) {
                int pass = x.ring(ring, i);
                int stands = other.ring(ring, i) / 4;
                if (stands == numbers) {
                    number[numbers] = pass / 4;
                    numbers++;
                }
            }
        }
        for (int c = 0; c < numbers; c++) {
            for (int about = 0; about < 8; about++) {
                due(what + ": crossing(" + number[c] + ", " + about + ")", x.crossing(number[c], about), other.crossing(c, about));
            }
        }
    }

    /** What is told of the rows but for the numbers of CROSSINGS. */
    private static String drawn(KnotRows x) {
        StringBuilder text = new StringBuilder();
        for (int face = 0; face < x.face(KnotRows.NONE, 0); face++) {
            for (int what = 0; what < x.face(face, 0) + 2; what++) {
                text.append(x.face(face, what)).append(' ');
            }
            text.append("; ");
        }
        for (int what = 0; what < 14; what++) {
            text.append(x.count(what)).append(' ');
        }
        for (int e = -60; e <= 60; e++) {
            text.append(x.coefficient(e, false)).append(' ').append(x.coefficient(e, true)).append(' ');
        }
        for (int ring = 1; ring < x.count(0); ring++) {
            text.append(x.winding(ring - 1, ring)).append(' ');
        }
        return text.append(x.colourings(3)).append(' ').append(x.freed(0)).append(' ').append(x.looser(1)).toString();
    }

    /** All that a call that is refused might have changed. */
    static String seen(KnotRows x) {
        StringBuilder text = new StringBuilder(told(x)).append(x.place());
        for (int what = 0; what < 17; what++) {
            text.append(' ').append(x.count(what));
        }
        return text.toString();
    }

    /** All that can be seen of RINGS, PASSES and signs, in the words of a text. */
    static String told(KnotRows x) {
        StringBuilder text = new StringBuilder();
        for (int ring = 0; ring < x.count(0); ring++) {
            text.append(ring > 0 ? " ring" : "ring");
            for (int i = 0; i < x.ring(ring, KnotRows.NONE); i++) {
                int pass = x.ring(ring, i);
                text.append((pass & 2) != 0 ? " over " : " under ").append(pass / 4).append((pass & 1) != 0 ? " +" : " -");
            }
            text.append(" ;");
        }
        return text.toString();
    }
}
