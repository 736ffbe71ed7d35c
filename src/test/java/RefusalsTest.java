import java.util.function.Supplier;
import java.util.function.ToIntFunction;

/**
 * Every refusal of every promise: just beside each bound, far beside it, of several the first in the order UNKNOWN,
 * OUTSIDE, NOT, FULL; and what is refused changes nothing.
 */
public final class RefusalsTest {
    private static final Check CHECK = new Check();
    private static final Twins TWINS = new Twins(CHECK);
    private static final int UNKNOWN = HedgeWar.UNKNOWN, OUTSIDE = HedgeWar.OUTSIDE;
    private static final int NOT = HedgeWar.NOT, FULL = HedgeWar.FULL, NONE = HedgeWar.NONE;
    private static final int LEAST = Integer.MIN_VALUE, MOST = Integer.MAX_VALUE;

    /** In the busy parish: 9 fields; 12 edges, 0 a footpath, 1 a slip, 2, 3, 7, 10 hedges round field 4, 4 free. */
    private static final int PATH = 0, SLIP = 1, HEDGE = 2, FREE = 4;
    private static final int[] NO_FIELDS = {LEAST, -1, 9, 25, 32, MOST};
    private static final int[] NO_EDGES = {LEAST, -1, 12, 32, 40, 64, MOST};
    private static final int[] NO_ESTATES = {LEAST, -1, 2, MOST};
    private static final int[] NO_IMAGES = {LEAST, -1, 2, MOST};
    private static final int[] NO_YEARS = {LEAST, -1, 0, 41, MOST};

    public static void main(String[] args) {
        values();
        feed();
        told();
        field();
        edge();
        plant();
        grazeAndGate();
        yearAndDrift();
        undo();
        slips();
        decidesTallInWalk();
        turns();
        birds();
        root();
        write();
        seed();
        images();
        CHECK.end();
    }

    private static void refused(String call, Supplier<HedgeWar> made, ToIntFunction<HedgeWar> more, int refusal) {
        TWINS.unchanged(call, made, more, refusal);
    }

    /** Something of everything: a fault, a text begun, things to undo, an image, roots, a book, gates, a seed. */
    private static HedgeWar busy() {
        HedgeWar x = Check.told("g3 3 4;p0;h2 1 3;h3 1 3;h7 1 3;h10 1 3;e8;");
        Check.tell(x, "g2 x");
        x.seed(77);
        x.gate(3, true);
        x.keep(0);
        x.plant(SLIP, 0);
        x.gate(HEDGE, true);
        x.gate(3, false);
        x.year(2);
        x.root(2, 12);
        x.write(8, 1);
        x.write(0, 1);
        Check.feedAll(x, "g2 2 0");
        return x;
    }

    private static HedgeWar withFullText() {
        HedgeWar x = busy();
        Check.feedAll(x, ";" + " ".repeat(233));
        return x;
    }

    /** 9001 years are past. */
    private static HedgeWar late() {
        HedgeWar x = Check.told("g2 2 0;h0 1 1;");
        x.seed(3);
        for (int k = 0; k < 225; k++) {
            x.year(40);
        }
        x.year(1);
        return x;
    }

    private static HedgeWar withSixRoots() {
        HedgeWar x = busy();
        for (int k = 1; k < 6; k++) {
            x.root(2, 12);
        }
        return x;
    }

    private static HedgeWar withFullBook() {
        HedgeWar x = busy();
        for (int k = 2; k < 15; k++) {
            x.write(8, 1);
        }
        return x;
    }

    private static HedgeWar withNothingToUndo() {
        HedgeWar x = busy();
        x.keep(1);
        return x;
    }

    private static void values() {
        CHECK.says("Terms: -1000000001 and on; NONE is -1");
        CHECK.due("UNKNOWN", UNKNOWN, -1000000001);
        CHECK.due("OUTSIDE", OUTSIDE, -1000000002);
        CHECK.due("NOT", NOT, -1000000003);
        CHECK.due("FULL", FULL, -1000000004);
        CHECK.due("NONE", NONE, -1);
    }

    private static void feed() {
        CHECK.says("2: a number 0 .. 255: OUTSIDE");
        for (int letter : new int[] {LEAST, -1, 256, 256 + ';', MOST}) {
            refused("feed(" + letter + ")", RefusalsTest::busy, x -> x.feed(letter), OUTSIDE);
            refused("feed(" + letter + ") first", HedgeWar::new, x -> x.feed(letter), OUTSIDE);
        }
        CHECK.says("2: FULL (240)");
        for (int letter : new int[] {0, ' ', 'g', 255}) {
            refused("the 241st", RefusalsTest::withFullText, x -> x.feed(letter), FULL);
        }
        CHECK.says("2: OUTSIDE ahead of FULL");
        refused("feed(-1)", RefusalsTest::withFullText, x -> x.feed(-1), OUTSIDE);
        refused("feed(256)", RefusalsTest::withFullText, x -> x.feed(256), OUTSIDE);
    }

    private static void told() {
        CHECK.says("5: OUTSIDE");
        for (int what : new int[] {LEAST, -1, 13, MOST}) {
            refused("told(" + what + ")", RefusalsTest::busy, x -> x.told(what), OUTSIDE);
            refused("told(" + what + "), no fields", HedgeWar::new, x -> x.told(what), OUTSIDE);
        }
    }

    private static void field() {
        for (int f : NO_FIELDS) {
            CHECK.says("6: UNKNOWN");
            refused("field " + f, RefusalsTest::busy, x -> x.field(f, 0), UNKNOWN);
            CHECK.says("6: UNKNOWN ahead of OUTSIDE");
            refused("field " + f, RefusalsTest::busy, x -> x.field(f, 4), UNKNOWN);
        }
        CHECK.says("6: UNKNOWN, no fields");
        refused("field 0", HedgeWar::new, x -> x.field(0, 0), UNKNOWN);
        refused("field 0, -1", HedgeWar::new, x -> x.field(0, -1), UNKNOWN);
        CHECK.says("6: OUTSIDE");
        for (int what : new int[] {LEAST, -1, 4, MOST}) {
            refused("what = " + what, RefusalsTest::busy, x -> x.field(8, what), OUTSIDE);
        }
    }

    private static void edge() {
        for (int e : NO_EDGES) {
            CHECK.says("7: UNKNOWN");
            refused("edge " + e, RefusalsTest::busy, x -> x.edge(e, 0), UNKNOWN);
            CHECK.says("7: UNKNOWN ahead of OUTSIDE");
            refused("edge " + e, RefusalsTest::busy, x -> x.edge(e, 8), UNKNOWN);
        }
        CHECK.says("7: UNKNOWN, no fields");
        refused("edge 0", HedgeWar::new, x -> x.edge(0, 0), UNKNOWN);
        refused("edge 0, 8", HedgeWar::new, x -> x.edge(0, 8), UNKNOWN);
        CHECK.says("7: OUTSIDE");
        for (int what : new int[] {LEAST, -1, 8, MOST}) {
            refused("what = " + what, RefusalsTest::busy, x -> x.edge(11, what), OUTSIDE);
        }
    }

    private static void plant() {
        CHECK.says("8: UNKNOWN");
        for (int e : NO_EDGES) {
            refused("edge " + e, RefusalsTest::busy, x -> x.plant(e, 0), UNKNOWN);
        }
        for (int estate : NO_ESTATES) {
            refused("estate " + estate, RefusalsTest::busy, x -> x.plant(FREE, estate), UNKNOWN);
        }
        refused("no fields", HedgeWar::new, x -> x.plant(0, 0), UNKNOWN);
        CHECK.says("8: NOT: a HEDGE, a FOOTPATH is there");
        for (int estate = 0; estate < 2; estate++) {
            int by = estate;
            refused("a hedge", RefusalsTest::busy, x -> x.plant(HEDGE, by), NOT);
            refused("a slip", RefusalsTest::busy, x -> x.plant(SLIP, by), NOT);
            refused("a footpath", RefusalsTest::busy, x -> x.plant(PATH, by), NOT);
        }
        CHECK.says("8: UNKNOWN ahead of NOT");
        refused("a hedge, estate 2", RefusalsTest::busy, x -> x.plant(HEDGE, 2), UNKNOWN);
        refused("a footpath, estate -1", RefusalsTest::busy, x -> x.plant(PATH, -1), UNKNOWN);
    }

    private static void grazeAndGate() {
        CHECK.says("9, 10: UNKNOWN");
        for (int e : NO_EDGES) {
            refused("graze " + e, RefusalsTest::busy, x -> x.graze(e), UNKNOWN);
            refused("gate " + e, RefusalsTest::busy, x -> x.gate(e, true), UNKNOWN);
            refused("gate " + e, RefusalsTest::busy, x -> x.gate(e, false), UNKNOWN);
        }
        refused("graze, no fields", HedgeWar::new, x -> x.graze(0), UNKNOWN);
        refused("gate, no fields", HedgeWar::new, x -> x.gate(0, true), UNKNOWN);
        CHECK.says("9, 10: NOT: no HEDGE");
        for (int e : new int[] {PATH, FREE, 11}) {
            refused("graze " + e, RefusalsTest::busy, x -> x.graze(e), NOT);
            refused("gate " + e, RefusalsTest::busy, x -> x.gate(e, true), NOT);
            refused("gate " + e, RefusalsTest::busy, x -> x.gate(e, false), NOT);
        }
    }

    private static void yearAndDrift() {
        for (int n : NO_YEARS) {
            CHECK.says("11, 12: n YEARS (1 .. 40): OUTSIDE");
            refused("year " + n, RefusalsTest::busy, x -> x.year(n), OUTSIDE);
            refused("drift " + n, RefusalsTest::busy, x -> x.drift(n), OUTSIDE);
            CHECK.says("11, 12: OUTSIDE ahead of NOT");
            refused("year " + n, HedgeWar::new, x -> x.year(n), OUTSIDE);
            refused("drift " + n, HedgeWar::new, x -> x.drift(n), OUTSIDE);
            CHECK.says("11, 12: OUTSIDE ahead of FULL");
            refused("year " + n, RefusalsTest::late, x -> x.year(n), OUTSIDE);
            refused("drift " + n, RefusalsTest::late, x -> x.drift(n), OUTSIDE);
        }
        for (int n : new int[] {1, 40}) {
            CHECK.says("11, 12: NOT: no FIELDS");
            refused("year " + n, HedgeWar::new, x -> x.year(n), NOT);
            refused("drift " + n, HedgeWar::new, x -> x.drift(n), NOT);
            CHECK.says("11, 12: FULL: YEARS are above 9000");
            refused("year " + n, RefusalsTest::late, x -> x.year(n), FULL);
            refused("drift " + n, RefusalsTest::late, x -> x.drift(n), FULL);
        }
    }

    private static void undo() {
        CHECK.says("13: NOT: none");
        refused("no fields", HedgeWar::new, HedgeWar::undo, NOT);
        refused("behind keep()", RefusalsTest::withNothingToUndo, HedgeWar::undo, NOT);
        refused("behind parish()", () -> Check.told("g2 2 0;"), HedgeWar::undo, NOT);
    }

    private static void slips() {
        for (int i : new int[] {NONE, 0}) {
            CHECK.says("14: UNKNOWN");
            for (int estate : NO_ESTATES) {
                refused("estate " + estate, RefusalsTest::busy, x -> x.slips(estate, 4, 1, i), UNKNOWN);
            }
            for (int f : NO_FIELDS) {
                refused("field " + f, RefusalsTest::busy, x -> x.slips(0, f, 1, i), UNKNOWN);
            }
            refused("no fields", HedgeWar::new, x -> x.slips(0, 0, 1, i), UNKNOWN);
            CHECK.says("14: n years (1 .. 20): OUTSIDE");
            for (int n : new int[] {LEAST, -1, 0, 21, MOST}) {
                refused(n + " years", RefusalsTest::busy, x -> x.slips(1, 4, n, i), OUTSIDE);
                refused(n + " years, at the rim", RefusalsTest::busy, x -> x.slips(1, 0, n, i), OUTSIDE);
            }
            CHECK.says("14: UNKNOWN ahead of OUTSIDE");
            refused("estate 2, 0 years", RefusalsTest::busy, x -> x.slips(2, 4, 0, i), UNKNOWN);
            refused("field 9, 21 years", RefusalsTest::busy, x -> x.slips(0, 9, 21, i), UNKNOWN);
        }
    }

    private static void decidesTallInWalk() {
        CHECK.says("15, 17: UNKNOWN");
        for (int f : NO_FIELDS) {
            refused("decides " + f, RefusalsTest::busy, x -> x.decides(f, NONE), UNKNOWN);
            refused("decides " + f, RefusalsTest::busy, x -> x.decides(f, 0), UNKNOWN);
            refused("walk from " + f, RefusalsTest::busy, x -> x.walk(f, 0), UNKNOWN);
            refused("walk to " + f, RefusalsTest::busy, x -> x.walk(0, f), UNKNOWN);
            refused("walk both " + f, RefusalsTest::busy, x -> x.walk(f, f), UNKNOWN);
        }
        refused("decides, no fields", HedgeWar::new, x -> x.decides(0, NONE), UNKNOWN);
        refused("walk, no fields", HedgeWar::new, x -> x.walk(0, 0), UNKNOWN);
        CHECK.says("16: UNKNOWN");
        for (int e : NO_EDGES) {
            refused("tallIn " + e, RefusalsTest::busy, x -> x.tallIn(e), UNKNOWN);
        }
        refused("tallIn, no fields", HedgeWar::new, x -> x.tallIn(0), UNKNOWN);
    }

    private static void turns() {
        for (int estate : NO_ESTATES) {
            CHECK.says("18: UNKNOWN");
            refused("estate " + estate, RefusalsTest::busy, x -> x.turns(estate, 1), UNKNOWN);
            CHECK.says("18: UNKNOWN ahead of OUTSIDE");
            refused("estate " + estate + ", 7 years", RefusalsTest::busy, x -> x.turns(estate, 7), UNKNOWN);
            CHECK.says("18: UNKNOWN ahead of NOT");
            refused("estate " + estate, HedgeWar::new, x -> x.turns(estate, 1), UNKNOWN);
        }
        for (int n : new int[] {LEAST, -1, 0, 7, MOST}) {
            CHECK.says("18: n years (1 .. 6): OUTSIDE");
            refused(n + " years", RefusalsTest::busy, x -> x.turns(0, n), OUTSIDE);
            CHECK.says("18: OUTSIDE ahead of NOT");
            refused(n + " years", HedgeWar::new, x -> x.turns(1, n), OUTSIDE);
        }
        CHECK.says("18: NOT: no FIELDS");
        refused("1 year", HedgeWar::new, x -> x.turns(0, 1), NOT);
        refused("6 years", HedgeWar::new, x -> x.turns(1, 6), NOT);
    }

    private static void birds() {
        CHECK.says("19: n birds (0 .. 60), q 0 .. 100: OUTSIDE");
        for (int n : new int[] {LEAST, -1, 61, MOST}) {
            refused(n + " birds", RefusalsTest::busy, x -> x.birds(n, 50), OUTSIDE);
            refused(n + " birds, no fields", HedgeWar::new, x -> x.birds(n, 50), OUTSIDE);
        }
        for (int q : new int[] {LEAST, -1, 101, MOST}) {
            refused("q = " + q, RefusalsTest::busy, x -> x.birds(3, q), OUTSIDE);
            refused("no birds, q = " + q, HedgeWar::new, x -> x.birds(0, q), OUTSIDE);
        }
    }

    private static void root() {
        for (int e : NO_EDGES) {
            CHECK.says("20: UNKNOWN");
            refused("edge " + e, RefusalsTest::busy, x -> x.root(e, 12), UNKNOWN);
            CHECK.says("20: UNKNOWN ahead of FULL");
            refused("edge " + e, RefusalsTest::withSixRoots, x -> x.root(e, 12), UNKNOWN);
        }
        refused("no fields", HedgeWar::new, x -> x.root(0, 12), UNKNOWN);
        for (int height : new int[] {LEAST, -1, 100, MOST}) {
            CHECK.says("20: HEIGHT h (0 .. 99): OUTSIDE");
            refused("height " + height, RefusalsTest::busy, x -> x.root(2, height), OUTSIDE);
            CHECK.says("20: OUTSIDE ahead of FULL");
            refused("height " + height, RefusalsTest::withSixRoots, x -> x.root(2, height), OUTSIDE);
            CHECK.says("20: UNKNOWN ahead of OUTSIDE");
            refused("height " + height, RefusalsTest::busy, x -> x.root(12, height), UNKNOWN);
        }
        CHECK.says("20: FULL (6)");
        refused("the 7th", RefusalsTest::withSixRoots, x -> x.root(2, 12), FULL);
        refused("the 7th, another one", RefusalsTest::withSixRoots, x -> x.root(PATH, 0), FULL);
    }

    private static void write() {
        for (int f : NO_FIELDS) {
            CHECK.says("23: UNKNOWN");
            refused("field " + f, RefusalsTest::busy, x -> x.write(f, 0), UNKNOWN);
            CHECK.says("23: UNKNOWN ahead of FULL");
            refused("field " + f, RefusalsTest::withFullBook, x -> x.write(f, 0), UNKNOWN);
        }
        for (int estate : NO_ESTATES) {
            CHECK.says("23: UNKNOWN");
            refused("estate " + estate, RefusalsTest::busy, x -> x.write(0, estate), UNKNOWN);
            CHECK.says("23: UNKNOWN ahead of FULL");
            refused("estate " + estate, RefusalsTest::withFullBook, x -> x.write(0, estate), UNKNOWN);
        }
        refused("no fields", HedgeWar::new, x -> x.write(0, 0), UNKNOWN);
        CHECK.says("23: FULL (15)");
        refused("the 16th", RefusalsTest::withFullBook, x -> x.write(0, 1), FULL);
    }

    private static void seed() {
        CHECK.says("26: v (0 .. 2147483647): OUTSIDE");
        for (int v : new int[] {LEAST, -65536, -1}) {
            refused("seed " + v, RefusalsTest::busy, x -> x.seed(v), OUTSIDE);
            refused("seed " + v + ", no fields", HedgeWar::new, x -> x.seed(v), OUTSIDE);
        }
    }

    private static void images() {
        CHECK.says("27, 28: UNKNOWN");
        for (int i : NO_IMAGES) {
            refused("keep " + i, RefusalsTest::busy, x -> x.keep(i), UNKNOWN);
            refused("goBack " + i, RefusalsTest::busy, x -> x.goBack(i), UNKNOWN);
            refused("keep " + i + ", no fields", HedgeWar::new, x -> x.keep(i), UNKNOWN);
        }
        CHECK.says("28: NOT: it was not kept");
        refused("image 1", RefusalsTest::busy, x -> x.goBack(1), NOT);
        refused("image 0, no fields", HedgeWar::new, x -> x.goBack(0), NOT);
        refused("image 1, no fields", HedgeWar::new, x -> x.goBack(1), NOT);
        CHECK.says("28: UNKNOWN ahead of NOT");
        refused("image 2, none kept", HedgeWar::new, x -> x.goBack(2), UNKNOWN);
        refused("image -1, none kept", HedgeWar::new, x -> x.goBack(-1), UNKNOWN);
    }
}
