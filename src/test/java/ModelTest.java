import java.util.Random;
import java.util.TreeSet;

/** Long runs of drawn calls on the class and on the plain model side by side. */
public final class ModelTest {
    private static final Check CHECK = new Check();
    private static final int RUNS = 1200, TEXTS = 4000;
    /** An object is used for so many calls at most. */
    private static final int CALLS = 512;

    private final Random random;
    private final HedgeWar x = new HedgeWar();
    private final PlainModel m = new PlainModel();
    private final String name;
    private int calls = 0;

    /** How often what the document is about came up: a run that never shuts anything in tests little. */
    private static int shutIns = 0, deciders = 0, cuts = 0, gains = 0, faults = 0, steps = 0;

    private ModelTest(int number) {
        random = new Random(number);
        name = "run " + number + ": ";
    }

    public static void main(String[] args) {
        for (int k = 0; k < RUNS; k++) {
            new ModelTest(k).run();
        }
        for (int k = 0; k < TEXTS; k++) {
            new ModelTest(RUNS + k).readOne();
        }
        System.out.println("shut in " + shutIns + ", deciding " + deciders + ", cuts " + cuts + ", turns that gain "
            + gains + ", faults " + faults + ", longer ways " + steps);
        CHECK.due("enough of all came up", Math.min(Math.min(Math.min(shutIns, deciders), Math.min(cuts, gains)),
            Math.min(faults, steps)) > 20 ? 1 : 0, 1);
        CHECK.end();
    }

    private void due(String call, int got, int want) {
        calls++;
        CHECK.due(name + call, got, want);
    }

    private int upTo(int n) {
        return random.nextInt(n);
    }

    private void run() {
        tellNew(upTo(2) == 0 ? goodText() : ringText());
        while (calls < CALLS - 40) {
            String text = upTo(2) == 0 ? spoilt(goodText()) : goodText();
            if (upTo(100) == 0 && text.length() < CALLS - 40 - calls) {
                tellNew(text);
            }
            oneCall();
        }
        while (calls < CALLS) {
            compareOne();
        }
    }

    private void readOne() {
        tellNew(upTo(4) == 0 ? goodText() : spoilt(goodText()));
        for (int what = 0; what <= 12; what++) {
            due("told " + what, x.told(what), m.told(what));
        }
        for (int f = 0; f < m.told(2); f++) {
            due("soil " + f, x.field(f, 0), m.field(f, 0));
            due("estate " + f, x.field(f, 1), m.field(f, 1));
        }
        for (int e = 0; e < m.told(3); e++) {
            due("hedge " + e, x.edge(e, 2), m.edge(e, 2));
            due("age " + e, x.edge(e, 3), m.edge(e, 3));
            due("path " + e, x.edge(e, 6), m.edge(e, 6));
        }
        while (calls < CALLS) {
            compareOne();
        }
    }

    private void tellNew(String text) {
        for (int k = 0; k < text.length(); k++) {
            due("feed", x.feed(text.charAt(k)), m.feed(text.charAt(k)));
        }
        int want = m.parish();
        due("parish of '" + text + "'", x.parish(), want);
        due("fault of '" + text + "'", x.fault(), m.fault());
        faults += want < 0 ? 1 : 0;
    }

    private String goodText() {
        int w = 2 + Math.min(upTo(6), 3), h = 2 + Math.min(upTo(6), 3);
        int fields = w * h, edges = h * (w - 1) + (h - 1) * w;
        StringBuilder text = new StringBuilder();
        text.append("g").append(w).append(" ").append(h).append(" ").append(upTo(10)).append(";");
        boolean[] used = new boolean[edges];
        boolean[] owned = new boolean[fields];
        int paths = upTo(3), kind = upTo(3);
        while (text.length() < 230 && upTo(60) != 0) {
            int e = upTo(edges), f = upTo(fields);
            int what = upTo(10);
            if (what == 0) {
                text.append("s").append(f).append(" ").append(upTo(10)).append(";");
            } else if (what == 1 && !owned[f]) {
                owned[f] = true;
                text.append("e").append(f).append(";");
            } else if (what == 2 && paths > 0 && !used[e]) {
                used[e] = true;
                paths--;
                text.append("p").append(e).append(";");
            } else if (what > 2 && !used[e]) {
                used[e] = true;
                int estate = kind == 2 ? upTo(2) : upTo(12) == 0 ? 1 - kind : kind;
                text.append("h").append(e).append(" ").append(estate).append(" ").append(1 + upTo(9)).append(";");
            }
        }
        return text.length() > 240 ? text.substring(0, 240) : text.toString();
    }

    /** Hedges round a few inner fields, one or two left out or the other estate's: most of what is asked is near. */
    private String ringText() {
        int w = 3 + upTo(3), h = 3 + upTo(3), estate = upTo(2), soil = upTo(10), age = 1 + upTo(8);
        TreeSet<Integer> inside = new TreeSet<>();
        int x0 = 1 + upTo(w - 2), y0 = 1 + upTo(h - 2);
        for (int k = 1 + upTo(3); k > 0; k--) {
            inside.add(y0 * w + x0);
            x0 = Math.max(1, Math.min(w - 2, x0 + upTo(3) - 1));
            y0 = Math.max(1, Math.min(h - 2, y0 + upTo(3) - 1));
        }
        int[] fields = inside.stream().mapToInt(Integer::intValue).toArray();
        StringBuilder text = new StringBuilder("g" + w + " " + h + " " + soil + ";");
        for (int f : fields) {
            text.append(upTo(2) == 0 ? "e" + f + ";" : "");
        }
        for (String clause : Check.hedgesRound(w, h, estate, age, fields).split(";")) {
            int fate = upTo(16);
            String other = clause.replace(" " + estate + " ", " " + (1 - estate) + " ");
            text.append(fate == 0 ? "" : fate == 1 ? other + ";" : clause + ";");
        }
        return text.toString();
    }

    private String spoilt(String text) {
        StringBuilder spoilt = new StringBuilder(text);
        String letters = "gseph0123456789999;;  x\u00ff";
        for (int k = 1 + upTo(2); k > 0 && spoilt.length() > 0; k--) {
            int at = upTo(spoilt.length());
            char letter = letters.charAt(upTo(letters.length()));
            switch (upTo(3)) {
                case 0:
                    spoilt.insert(at, letter);
                    break;
                case 1:
                    spoilt.setCharAt(at, letter);
                    break;
                default:
                    spoilt.deleteCharAt(at);
            }
        }
        return spoilt.length() > 240 ? spoilt.substring(0, 240) : spoilt.toString();
    }

    /** Mostly one of 0 .. n less 1, now and then just beside. */
    private int about(int n) {
        return upTo(40) == 0 ? (upTo(2) == 0 ? -1 - upTo(2) : n + upTo(2)) : upTo(Math.max(1, n));
    }

    private void oneCall() {
        int e = about(m.told(3)), f = about(m.told(2)), estate = about(2);
        switch (upTo(28)) {
            case 0: case 1: case 2: case 3:
                due("plant " + e + " " + estate, x.plant(e, estate), m.plant(e, estate));
                break;
            case 4:
                due("graze " + e, x.graze(e), m.graze(e));
                break;
            case 5: case 6: case 7:
                boolean is = upTo(3) == 0;
                due("gate " + e + " " + is, x.gate(e, is), m.gate(e, is));
                break;
            case 8: case 9:
                int n = upTo(20) == 0 ? about(42) : 1 + upTo(3);
                due("year " + n, x.year(n), m.year(n));
                break;
            case 10:
                int d = upTo(20) == 0 ? about(42) : 1 + upTo(3);
                due("drift " + d, x.drift(d), m.drift(d));
                break;
            case 11: case 12:
                due("undo", x.undo(), m.undo());
                break;
            case 13: case 14: case 15:
                compareSlips(estate, f, about(22));
                break;
            case 16:
                compareDecides(f);
                break;
            case 17:
                due("tallIn " + e, x.tallIn(e), m.tallIn(e));
                break;
            case 18:
                int g = about(m.told(2));
                int way = m.walk(f, g);
                steps += way > 4 ? 1 : 0;
                due("walk " + f + " " + g, x.walk(f, g), way);
                break;
            case 19:
                compareTurns(estate);
                break;
            case 20:
                int birds = about(61), q = about(101);
                due("birds", x.birds(birds, q), m.birds(birds, q));
                break;
            case 21: case 22:
                compareRoots(e);
                break;
            case 23:
                due("write", x.write(f, estate), m.write(f, estate));
                due("judge", x.judge(), m.judge());
                break;
            case 24:
                int v = random.nextInt();
                due("seed " + v, x.seed(v), m.seed(v));
                break;
            case 25:
                compareImage(about(2));
                break;
            default:
                for (int k = 0; k < 12; k++) {
                    compareOne();
                }
        }
    }

    private void compareImage(int i) {
        if (upTo(2) == 0) {
            due("keep " + i, x.keep(i), m.keep(i));
        } else {
            due("goBack " + i, x.goBack(i), m.goBack(i));
        }
    }

    private void compareSlips(int estate, int f, int n) {
        int count = m.slips(estate, f, n, -1);
        cuts += count > 0 ? 1 : 0;
        for (int i = -2; i <= Math.max(0, count); i++) {
            due("slips " + estate + " " + f + " " + n + " " + i, x.slips(estate, f, n, i), m.slips(estate, f, n, i));
        }
    }

    private void compareDecides(int f) {
        int count = m.decides(f, -1);
        deciders += count > 0 ? 1 : 0;
        for (int i = -2; i <= Math.max(0, count); i++) {
            due("decides " + f + " " + i, x.decides(f, i), m.decides(f, i));
        }
    }

    private void compareTurns(int estate) {
        int n = about(7);
        // Whole games are dear on wide parishes.
        if (m.told(3) > 24 && upTo(8) != 0) {
            return;
        }
        int want = m.turns(estate, n);
        gains += want > m.told(7 + Math.max(0, Math.min(1, estate))) ? 1 : 0;
        due("turns " + estate + " " + n, x.turns(estate, n), want);
    }

    private void compareRoots(int e) {
        int height = upTo(3) == 0 ? about(100) : (2 + upTo(5)) * upTo(17);
        due("root " + e + " " + height, x.root(e, height), m.root(e, height));
        due("plantedAgo", x.plantedAgo(), m.plantedAgo());
        due("lookAt", x.lookAt(), m.lookAt());
        if (upTo(3) == 0) {
            due("tear", x.tear(), m.tear());
            due("lookAt", x.lookAt(), m.lookAt());
        }
    }

    /** One answer of those that tell how all is. */
    private void compareOne() {
        int e = about(m.told(3)), f = about(m.told(2));
        int what = about(13);
        switch (upTo(8)) {
            case 0: case 1:
                due("told " + what, x.told(what), m.told(what));
                break;
            case 2: case 3:
                int of = about(4);
                due("field " + f + " " + of, x.field(f, of), m.field(f, of));
                shutIns += of == 3 && m.field(f, 3) >= 0 ? 1 : 0;
                break;
            case 4: case 5:
                int on = about(8);
                due("edge " + e + " " + on, x.edge(e, on), m.edge(e, on));
                break;
            case 6:
                due("tallIn " + e, x.tallIn(e), m.tallIn(e));
                break;
            default:
                due("judge", x.judge(), m.judge());
        }
    }
}
