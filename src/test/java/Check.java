/** Counts answers that are not as due, for the tests' main methods. */
final class Check {
    private int wrong = 0;
    private int seen = 0;

    void due(String call, long got, long want) {
        seen++;
        if (got != want) {
            wrong++;
            if (wrong <= 40) {
                System.out.println(call + " answered " + got + ", due is " + want);
            }
        }
    }

    /** Prints how it went; exit code 1 if an answer was wrong. */
    void end() {
        System.out.println(seen + " answers, " + wrong + " not as due");
        if (wrong != 0) {
            System.exit(1);
        }
    }

    static void feedAll(HedgeWar x, String text) {
        for (int k = 0; k < text.length(); k++) {
            x.feed(text.charAt(k));
        }
    }

    /** Feeds a text and makes it the parish. */
    static int tell(HedgeWar x, String text) {
        feedAll(x, text);
        return x.parish();
    }

    /** A new object whose parish is a text without a fault. */
    static HedgeWar told(String text) {
        HedgeWar x = new HedgeWar();
        if (tell(x, text) < 0) {
            throw new IllegalStateException("a fault in " + text + " at " + x.fault());
        }
        return x;
    }
}
