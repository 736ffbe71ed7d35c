import java.util.Random;

/** Any arguments in any state: nothing is thrown, and what is refused changes nothing. */
public final class AnyCallsTest {
    private static final Check CHECK = new Check();
    private static final int[] WILD = {Integer.MIN_VALUE, -1000000001, -65536, -33, -2, -1, 0, 1, 2, 3, 4, 5, 6, 7, 9,
        12, 15, 20, 21, 24, 25, 26, 31, 32, 33, 39, 40, 41, 60, 63, 64, 99, 100, 240, 255, 256, 65536, Integer.MAX_VALUE};
    private static final String[] TEXTS = {"", "g2 2 0;", "g5 5 9;", "g2 5 4;h0 0 9;h4 1 9;", "g5 2 3;p0;e9;",
        "g4 4 5;h3 1 9;h5 1 9;h13 1 9;h14 1 9;h21 1 9;h22 1 9;h8 1 9;h6 1 9;"};

    /** An object is used for 512 calls at most: so many with any arguments, and two prints with the text's letters. */
    private static final int CALLS = 100, RUNS = 2000;

    public static void main(String[] args) {
        for (int run = 0; run < RUNS; run++) {
            Random random = new Random(run);
            HedgeWar x = new HedgeWar();
            Check.tell(x, TEXTS[run % TEXTS.length]);
            for (int k = random.nextInt(CALLS); k > 0; k--) {
                call(x, random.nextInt(27), random);
            }
            long before = print(x);
            int which = random.nextInt(27);
            if (call(x, which, random) <= HedgeWar.UNKNOWN) {
                CHECK.due("run " + run + ": refused, changed by call " + which, print(x), before);
            }
        }
        CHECK.end();
    }

    private static int any(Random random) {
        return random.nextInt(3) == 0 ? WILD[random.nextInt(WILD.length)] : random.nextInt(8);
    }

    private static int call(HedgeWar x, int which, Random random) {
        int a = any(random), b = any(random), c = any(random), d = any(random);
        switch (which) {
            case 0: return x.feed(a);
            case 1: return random.nextInt(20) == 0 ? x.parish() : x.fault();
            case 2: return x.fault();
            case 3: return x.told(a);
            case 4: return x.field(a, b);
            case 5: return x.edge(a, b);
            case 6: return x.plant(a, b);
            case 7: return x.graze(a);
            case 8: return x.gate(a, b > 0);
            case 9: return x.year(a);
            case 10: return x.drift(a);
            case 11: return x.undo();
            case 12: return x.slips(a, b, c, d);
            case 13: return x.decides(a, b);
            case 14: return x.tallIn(a);
            case 15: return x.walk(a, b);
            case 16: return x.turns(a, b);
            case 17: return x.birds(a, b);
            case 18: return x.root(a, b);
            case 19: return x.plantedAgo();
            case 20: return x.lookAt();
            case 21: return x.write(a, b);
            case 22: return x.tear();
            case 23: return x.judge();
            case 24: return x.seed(a);
            case 25: return x.keep(a);
            default: return x.goBack(a);
        }
    }

    /** One number out of what can be asked without a change and does not follow from the rest. */
    private static long print(HedgeWar x) {
        long sum = x.fault();
        for (int what = 0; what <= 12; what++) {
            sum = sum * 31 + x.told(what);
        }
        int fields = x.told(2), edges = x.told(3);
        for (int f = 0; f < fields; f++) {
            sum = sum * 31 + x.field(f, 1);
        }
        for (int e = 0; e < edges; e++) {
            sum = ((sum * 31 + x.edge(e, 2)) * 31 + x.edge(e, 3)) * 31 + x.edge(e, 5);
        }
        int seed = x.seed(0);
        x.seed(seed);
        return ((sum * 31 + seed) * 31 + x.plantedAgo()) * 31 + x.judge();
    }
}
