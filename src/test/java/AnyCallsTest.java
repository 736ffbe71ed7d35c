import java.util.Random;

/** Any arguments in any state: nothing is thrown, and what is refused changes nothing. */
public final class AnyCallsTest {
    private static final Check CHECK = new Check();
    private static final int[] WILD = {Integer.MIN_VALUE, -1000000001, -65536, -33, -2, -1, 0, 1, 2, 3, 4, 5, 6, 7, 9,
        12, 15, 20, 21, 24, 25, 26, 31, 32, 33, 39, 40, 41, 60, 63, 64, 99, 100, 240, 255, 256, 65536, Integer.MAX_VALUE};
    private static final String[] TEXTS = {"", "g2 2 0;", "g5 5 9;", "g2 5 4;h0 0 9;h4 1 9;", "g5 2 3;p0;e9;",
        "g4 4 5;h3 1 9;h5 1 9;h13 1 9;h14 1 9;h21 1 9;h22 1 9;h8 1 9;h6 1 9;"};

    public static void main(String[] args) {
        for (int run = 0; run < 200; run++) {
            Random random = new Random(run);
            HedgeWar x = new HedgeWar();
            Check.tell(x, TEXTS[run % TEXTS.length]);
            for (int k = 0; k < 500; k++) {
                int which = random.nextInt(27);
                long before = print(x);
                int answer = call(x, which, random);
                if (answer <= HedgeWar.UNKNOWN) {
                    CHECK.due("run " + run + ": refused, changed by call " + which, print(x), before);
                }
                if (random.nextInt(100) == 0) {
                    Check.tell(x, TEXTS[random.nextInt(TEXTS.length)]);
                }
            }
        }
        CHECK.end();
    }

    private static int any(Random random) {
        return random.nextInt(3) == 0 ? WILD[random.nextInt(WILD.length)] : random.nextInt(8);
    }

    private static int call(HedgeWar x, int which, Random random) {
        int a = any(random), b = any(random), c = any(random), d = any(random);
        switch (which) {
            case 0: return x.feed(a);
            case 1: return random.nextInt(20) == 0 ? x.parish() : x.fault();
            case 2: return x.fault();
            case 3: return x.told(a);
            case 4: return x.field(a, b);
            case 5: return x.edge(a, b);
            case 6: return x.plant(a, b);
            case 7: return x.graze(a);
            case 8: return x.gate(a, b > 0);
            case 9: return x.year(a);
            case 10: return x.drift(a);
            case 11: return x.undo();
            case 12: return x.slips(a, b, c, d);
            case 13: return x.decides(a, b);
            case 14: return x.tallIn(a);
            case 15: return x.walk(a, b);
            case 16: return x.turns(a, b);
            case 17: return x.birds(a, b);
            case 18: return x.root(a, b);
            case 19: return x.plantedAgo();
            case 20: return x.lookAt();
            case 21: return x.write(a, b);
            case 22: return x.tear();
            case 23: return x.judge();
            case 24: return x.seed(a);
            case 25: return x.keep(a);
            default: return x.goBack(a);
        }
    }

    /** One number out of all that can be asked without a change. */
    private static long print(HedgeWar x) {
        long sum = x.fault();
        for (int what = 0; what <= 12; what++) {
            sum = sum * 31 + x.told(what);
        }
        for (int f = 0; f < x.told(2); f++) {
            for (int what = 0; what <= 3; what++) {
                sum = sum * 31 + x.field(f, what);
            }
        }
        for (int e = 0; e < x.told(3); e++) {
            for (int what = 0; what <= 7; what++) {
                sum = sum * 31 + x.edge(e, what);
            }
        }
        int seed = x.seed(0);
        x.seed(seed);
        return ((sum * 31 + seed) * 31 + x.plantedAgo()) * 31 + x.judge();
    }
}
