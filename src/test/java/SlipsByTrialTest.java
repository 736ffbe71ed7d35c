import java.util.Random;

/**
 * FEWEST SLIPS word for word: all sets of edges are tried, and each is judged by walking. It also counts
 * how many sets of the fewest leave the fewest fields: the document says that there is just one.
 */
public final class SlipsByTrialTest {
    private static final Check CHECK = new Check();
    private static final int PARISHES = 400;

    private final Random random;
    private final int w, h, edges;
    private final int[] soil, hedge, age;
    private final boolean[] path, open;

    private int fewest, leastLand, bestSet, sets;

    private SlipsByTrialTest(int number) {
        random = new Random(number);
        // At most 17 edges, so that all sets can be tried.
        w = 3 + random.nextInt(2);
        h = w == 4 ? 3 : 3 + random.nextInt(2);
        edges = h * (w - 1) + (h - 1) * w;
        soil = new int[w * h];
        hedge = new int[edges];
        age = new int[edges];
        path = new boolean[edges];
        open = new boolean[edges];
    }

    public static void main(String[] args) {
        for (int k = 0; k < PARISHES; k++) {
            new SlipsByTrialTest(k).tryAll("parish " + k + ": ");
        }
        CHECK.end();
    }

    private void tryAll(String name) {
        HedgeWar x = Check.told(drawnParish());
        for (int e = 0; e < edges; e++) {
            if (open[e]) {
                x.gate(e, true);
            }
        }
        for (int f = 0; f < w * h; f++) {
            int estate = random.nextInt(2), n = 1 + random.nextInt(20);
            trySets(estate, f, n);
            String call = name + "slips(" + estate + ", " + f + ", " + n + ") ";
            CHECK.due(call + "how many", x.slips(estate, f, n, HedgeWar.NONE), fewest);
            CHECK.due(call + "sets that leave fewest", sets, fewest < 0 ? 0 : 1);
            int i = 0;
            for (int e = 0; e < edges; e++) {
                if (fewest >= 0 && (bestSet >> e & 1) != 0) {
                    CHECK.due(call + i, x.slips(estate, f, n, i), e);
                    i++;
                }
            }
            CHECK.due(call + "behind the last", x.slips(estate, f, n, i), HedgeWar.NONE);
        }
    }

    private String drawnParish() {
        StringBuilder text = new StringBuilder("g" + w + " " + h + " 0;");
        for (int f = 0; f < w * h; f++) {
            soil[f] = random.nextInt(10);
            text.append("s").append(f).append(" ").append(soil[f]).append(";");
        }
        int most = 1 + random.nextInt(8);
        for (int e = 0; e < edges; e++) {
            hedge[e] = HedgeWar.NONE;
            int what = random.nextInt(16);
            if (what == 0) {
                path[e] = true;
                text.append("p").append(e).append(";");
            } else if (what <= most) {
                hedge[e] = random.nextInt(4) == 0 ? 1 : 0;
                age[e] = 1 + random.nextInt(9);
                open[e] = random.nextInt(6) == 0;
                text.append("h").append(e).append(" ").append(hedge[e]).append(" ").append(age[e]).append(";");
            }
        }
        return text.toString();
    }

    private int left(int e) {
        return e < h * (w - 1) ? e / (w - 1) * w + e % (w - 1) : e - h * (w - 1);
    }

    private int right(int e) {
        return e < h * (w - 1) ? left(e) + 1 : left(e) + w;
    }

    private boolean tallAt(int e, int years) {
        return years * (2 + (soil[left(e)] + soil[right(e)]) / 4) >= 12;
    }

    private void trySets(int estate, int f, int n) {
        int may = 0, stands = 0;
        for (int e = 0; e < edges; e++) {
            if (hedge[e] == HedgeWar.NONE && !path[e] && tallAt(e, n)) {
                may |= 1 << e;
            }
            if (hedge[e] == estate && !open[e] && tallAt(e, age[e] + n)) {
                stands |= 1 << e;
            }
        }
        fewest = HedgeWar.NONE;
        sets = 0;
        int set = 0;
        do {
            if (fewest < 0 || Integer.bitCount(set) <= fewest) {
                weigh(set, landFrom(f, set | stands));
            }
            // The next set of edges that are in may, as a number the next greater one; 0 behind the last.
            set = (set - may) & may;
        } while (set != 0);
    }

    private void weigh(int set, int land) {
        if (land == 0) {
            return;
        }
        int fields = Integer.bitCount(land), slips = Integer.bitCount(set);
        if (fewest < 0 || slips < fewest || fields < leastLand) {
            fewest = slips;
            leastLand = fields;
            bestSet = set;
            sets = 1;
        } else if (fields == leastLand) {
            sets++;
        }
    }

    /** The fields that one comes to without crossing some edges; 0 if one comes to the rim. */
    private int landFrom(int f, int closed) {
        int land = 1 << f;
        for (boolean wider = true; wider; ) {
            wider = false;
            for (int e = 0; e < edges; e++) {
                boolean one = (land >> left(e) & 1) != 0, other = (land >> right(e) & 1) != 0;
                if (one != other && (closed >> e & 1) == 0) {
                    land |= 1 << left(e) | 1 << right(e);
                    wider = true;
                }
            }
        }
        for (int g = 0; g < w * h; g++) {
            boolean rim = g < w || g >= w * (h - 1) || g % w == 0 || g % w == w - 1;
            if (rim && (land >> g & 1) != 0) {
                return 0;
            }
        }
        return land;
    }
}
