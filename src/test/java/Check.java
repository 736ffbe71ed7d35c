/** Counts answers that are not as due, for the tests' main methods. */
final class Check {
    private int wrong = 0;
    private int seen = 0;
    private String sentence = "";

    /** The sentence of the document that the answers from here on are about. */
    void says(String words) {
        sentence = words + " | ";
    }

    void due(String call, long got, long want) {
        seen++;
        if (got != want) {
            wrong++;
            if (wrong <= 40) {
                System.out.println(sentence + call + " answered " + got + ", due is " + want);
            }
        }
    }

    /** Prints how it went; exit code 1 if an answer was wrong. */
    void end() {
        System.out.println(seen + " answers, " + wrong + " not as due");
        if (wrong != 0) {
            System.exit(1);
        }
    }

    /** Clauses that tell hedges on all edges between some fields and the others, in w columns, h rows. */
    static String hedgesRound(int w, int h, int estate, int age, int... fields) {
        StringBuilder text = new StringBuilder();
        for (int y = 0; y < h; y++) {
            for (int x = 0; x < w; x++) {
                int f = y * w + x;
                if (x < w - 1 && isOf(f, fields) != isOf(f + 1, fields)) {
                    text.append("h").append(y * (w - 1) + x).append(" ").append(estate).append(" ").append(age).append(";");
                }
                if (y < h - 1 && isOf(f, fields) != isOf(f + w, fields)) {
                    text.append("h").append(h * (w - 1) + f).append(" ").append(estate).append(" ").append(age).append(";");
                }
            }
        }
        return text.toString();
    }

    private static boolean isOf(int f, int[] fields) {
        for (int one : fields) {
            if (one == f) {
                return true;
            }
        }
        return false;
    }

    static void feedAll(HedgeWar x, String text) {
        for (int k = 0; k < text.length(); k++) {
            x.feed(text.charAt(k));
        }
    }

    /** Feeds a text and makes it the parish. */
    static int tell(HedgeWar x, String text) {
        feedAll(x, text);
        return x.parish();
    }

    /** A new object whose parish is a text without a fault. */
    static HedgeWar told(String text) {
        HedgeWar x = new HedgeWar();
        if (tell(x, text) < 0) {
            throw new IllegalStateException("a fault in " + text + " at " + x.fault());
        }
        return x;
    }
}
