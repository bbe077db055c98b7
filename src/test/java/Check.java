/** Counts answers that are due, and feeds texts byte by byte. */
final class Check {
    private final String about;
    private int asked;
    private int wrong;

    Check(String about) {
        this.about = about;
    }

    void due(String what, long got, long want) {
        asked++;
        if (got != want) {
            wrong++;
            System.out.println(about + ": " + what + " answered " + got + ", due is " + want);
        }
    }

    void due(String what, boolean got, boolean want) {
        due(what, got ? 1 : 0, want ? 1 : 0);
    }

    /** Ends the program, with exit code 1 if an answer was wrong. */
    void end() {
        System.out.println(about + ": " + asked + " answers, " + wrong + " wrong");
        if (wrong > 0 || asked == 0) {
            System.exit(1);
        }
    }

    /** A text comes on the tape; the last twenty bytes' rest is taken back. */
    static void feed(KnotRows x, String text) {
        for (int from = 0; from < text.length(); from += 20) {
            int[] word = new int[5];
            for (int i = 0; i < 20; i++) {
                int sign = from + i < text.length() ? text.charAt(from + i) : ' ';
                word[i / 4] = word[i / 4] << 8 | sign & 255;
            }
            x.feed(word[0], word[1], word[2], word[3], word[4]);
        }
        x.back((20 - text.length() % 20) % 20);
    }

    static int read(KnotRows x, String text) {
        feed(x, text);
        return x.read();
    }

    static KnotRows of(String text) {
        KnotRows x = new KnotRows();
        if (read(x, text) != 0) {
            throw new IllegalStateException("not a text: " + text);
        }
        return x;
    }

    /** All that can be seen of RINGS, PASSES and signs, in the words of a text. */
    static String told(KnotRows x) {
        StringBuilder text = new StringBuilder();
        for (int ring = 0; ring < x.count(0); ring++) {
            text.append(ring > 0 ? " ring" : "ring");
            for (int i = 0; i < x.ring(ring, KnotRows.NONE); i++) {
                int pass = x.ring(ring, i);
                text.append((pass & 2) != 0 ? " over " : " under ").append(pass / 4).append((pass & 1) != 0 ? " +" : " -");
            }
            text.append(" ;");
        }
        return text.toString();
    }
}
