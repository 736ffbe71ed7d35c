import java.util.function.ToIntFunction;

/** The Terms' part 3, TRIED, and promises 14 to 28: each sentence with a bound, on both sides of the bound. */
public final class TriedTermsTest {
    private static final Check CHECK = new Check();
    private static final int NONE = HedgeWar.NONE, NOT = HedgeWar.NOT, FULL = HedgeWar.FULL;
    private static final int ALL_YEARS = (1 << 21) - 1;

    /** Field 4 is inside, with the edges 2, 3, 7, 10 round it; soil 4: tall at 3 years. */
    private static final String SMALL = "g3 3 4;";
    /** Fields 6, 7, 8 are inside, with the edges 4, 13, 18 round 6, 14, 19 at 7, 7, 15, 20 round 8; 5, 6 between. */
    private static final String WIDE = "g5 3 4;";

    public static void main(String[] args) {
        nothingChanges();
        slipsYears();
        slipsStanding();
        slipsAtTheRim();
        slipsWhereTheyMayBe();
        slipsTallInTime();
        slipsOfOtherHedges();
        slipsNoneNeeded();
        slipsRising();
        slipsFewestFields();
        slipsOfAllInside();
        decidesOpenGates();
        decidesEach();
        decidesRising();
        decidesByWhom();
        decidesWhatIsShutIn();
        tallIn();
        walk();
        turnsYears();
        turnsInTurn();
        turnsOrNone();
        turnsYearsGoBy();
        rootsSix();
        plantedAgo();
        lookAtBest();
        lookAtLeast();
        lookAtNone();
        largestParish();
        birds();
        birdsCutEach();
        bookFifteen();
        wrongTheFirst();
        torn();
        seeds();
        draws();
        drawsAheadOfEach();
        drawsIfItMayBe();
        imagesTwo();
        imagesKeep();
        imagesOnNoFields();
        CHECK.end();
    }

    private static void due(String call, long got, long want) {
        CHECK.due(call, got, want);
    }

    private static String ringed(int estate, int age) {
        return SMALL + Check.hedgesRound(3, 3, estate, age, 4);
    }

    /** The slips by which a field is shut off are just these edges. */
    private static void slipsAre(HedgeWar x, int estate, int f, int n, int... edges) {
        String call = "slips of " + estate + " about " + f + " in " + n;
        due(call, x.slips(estate, f, n, NONE), edges.length);
        for (int i = 0; i < edges.length; i++) {
            due(call + ", " + i, x.slips(estate, f, n, i), edges[i]);
        }
        due(call + ", behind the last", x.slips(estate, f, n, edges.length), NONE);
        due(call + ", far behind", x.slips(estate, f, n, Integer.MAX_VALUE), NONE);
    }

    private static void noSlips(HedgeWar x, int estate, int f, int n) {
        String call = "slips of " + estate + " about " + f + " in " + n;
        due(call, x.slips(estate, f, n, NONE), NONE);
        due(call + ", 0", x.slips(estate, f, n, 0), NONE);
    }

    private static void nothingChanges() {
        CHECK.says("3: TRIED from now; nothing changes by it");
        tried("fault", HedgeWar::fault, 3);
        tried("told", x -> x.told(12), 4);
        tried("field", x -> x.field(4, 3), 1);
        tried("edge", x -> x.edge(3, 3), 5);
        tried("slips", x -> x.slips(0, 4, 20, NONE), NONE);
        tried("slips", x -> x.slips(1, 4, 20, NONE), 0);
        tried("decides", x -> x.decides(0, NONE), 0);
        tried("tallIn", x -> x.tallIn(4), 3);
        tried("walk", x -> x.walk(0, 8), 4);
        tried("turns", x -> x.turns(0, 6), 7);
        tried("turns", x -> x.turns(1, 6), 2);
        tried("birds", x -> x.birds(3, 50), 125000000);
        tried("plantedAgo", HedgeWar::plantedAgo, 1 << 3);
        tried("lookAt", HedgeWar::lookAt, NONE);
        tried("judge", HedgeWar::judge, 1);
    }

    private static void tried(String call, ToIntFunction<HedgeWar> more, int want) {
        new Twins(CHECK).unchanged(call, TriedTermsTest::busy, more, want);
    }

    private static HedgeWar busy() {
        HedgeWar x = Check.told("g3 3 4;p0;h2 1 3;h3 1 3;h7 1 3;h10 1 3;e8;");
        Check.tell(x, "g2 x");
        x.seed(77);
        x.keep(0);
        x.plant(1, 0);
        x.gate(2, true);
        x.gate(2, false);
        x.year(2);
        x.root(2, 12);
        x.write(8, 1);
        x.write(0, 1);
        Check.feedAll(x, "g2 2 0");
        return x;
    }

    private static void slipsYears() {
        CHECK.says("3: behind n years (1 .. 20)");
        HedgeWar one = Check.told(ringed(1, 2));
        slipsAre(one, 1, 4, 1);
        slipsAre(one, 1, 4, 20);
        slipsAre(Check.told(SMALL), 0, 4, 20, 2, 3, 7, 10);
        noSlips(Check.told(SMALL), 0, 4, 1);
    }

    private static void slipsStanding() {
        CHECK.says("3: a HEDGE of A that is TALL then, without an open GATE");
        HedgeWar x = Check.told("g3 3 0;s4 9;s7 9;h2 1 1;h3 1 1;h7 1 1;");
        // The edges 2, 3, 7 grow by 4, edge 10 by 6: 3 years and 2 years.
        slipsAre(x, 1, 4, 2, 10);
        noSlips(x, 1, 4, 1);
        HedgeWar gate = Check.told(ringed(1, 9));
        slipsAre(gate, 1, 4, 5);
        gate.gate(7, true);
        noSlips(gate, 1, 4, 5);
        gate.gate(7, false);
        slipsAre(gate, 1, 4, 5);
        HedgeWar wide = Check.told(WIDE + Check.hedgesRound(5, 3, 0, 9, 6));
        slipsAre(wide, 0, 6, 3);
        wide.gate(5, true);
        slipsAre(wide, 0, 6, 3, 6, 14, 19);
    }

    private static void slipsAtTheRim() {
        CHECK.says("3: never, if it is at the rim itself");
        for (int f = 0; f < 9; f++) {
            HedgeWar x = Check.told(SMALL + Check.hedgesRound(3, 3, 1, 9, f));
            if (f == 4) {
                slipsAre(x, 1, f, 20);
            } else {
                noSlips(x, 1, f, 20);
            }
        }
        noSlips(Check.told("g2 5 9;"), 0, 4, 20);
        noSlips(Check.told("g5 2 9;"), 1, 4, 20);
    }

    private static void slipsWhereTheyMayBe() {
        CHECK.says("3: a slip can be planted only where there is no HEDGE, no FOOTPATH");
        for (int e : new int[] {2, 3, 7, 10}) {
            noSlips(Check.told(SMALL + "p" + e + ";"), 0, 4, 20);
            noSlips(Check.told(SMALL + "h" + e + " 1 9;"), 0, 4, 20);
            noSlips(Check.told(SMALL + "h" + e + " 0 1;"), 0, 4, 1);
            HedgeWar x = Check.told(SMALL + "h" + e + " 0 1;");
            due("own hedge at " + e, x.slips(0, 4, 3, NONE), 3);
        }
        slipsAre(Check.told(WIDE + "p5;"), 0, 6, 3, 4, 6, 13, 14, 18, 19);
        slipsAre(Check.told(WIDE + "h6 1 9;"), 0, 7, 3, 5, 7, 14, 15, 19, 20);
        slipsAre(Check.told(WIDE + "p5;p6;"), 0, 7, 3, 4, 7, 13, 14, 15, 18, 19, 20);
        noSlips(Check.told(WIDE + "p5;p6;p4;"), 0, 7, 3);
    }

    private static void slipsTallInTime() {
        CHECK.says("3: and only if it is TALL in n years");
        int[][] rows = {{0, 6}, {2, 4}, {4, 3}, {6, 3}, {8, 2}, {9, 2}};
        for (int[] row : rows) {
            HedgeWar x = Check.told("g3 3 " + row[0] + ";");
            noSlips(x, 1, 4, row[1] - 1);
            slipsAre(x, 1, 4, row[1], 2, 3, 7, 10);
        }
        // Edge 5, between 6 and 7, grows by 2, the others by 2, too, but for those at 7 and 8.
        HedgeWar x = Check.told("g5 3 9;s6 0;s1 0;s5 0;s11 0;");
        noSlips(x, 0, 6, 2);
        slipsAre(x, 0, 6, 6, 4, 5, 13, 18);
        slipsAre(x, 0, 8, 2, 6, 7, 15, 20);
    }

    private static void slipsOfOtherHedges() {
        CHECK.says("3: other HEDGES do not count");
        noSlips(Check.told(ringed(0, 9)), 1, 4, 3);
        noSlips(Check.told(ringed(1, 9)), 0, 4, 3);
        // 1's hedges at 7 do not stop anyone here: 0 must go round 7 as well.
        slipsAre(Check.told(WIDE + "h5 1 9;"), 0, 6, 3, 4, 6, 13, 14, 18, 19);
        // They do not make the land that is left smaller either: 6 and 7 are left, not 6 alone.
        HedgeWar x = Check.told(WIDE + "h5 1 9;h4 0 9;h13 0 9;h18 0 9;h14 0 9;h19 0 9;");
        slipsAre(x, 0, 6, 3, 6);
        slipsAre(x, 0, 7, 3, 6);
    }

    private static void slipsNoneNeeded() {
        CHECK.says("3: How many; NONE: not by any");
        HedgeWar x = Check.told(ringed(0, 3));
        slipsAre(x, 0, 4, 1);
        noSlips(x, 1, 4, 20);
    }

    private static void slipsRising() {
        CHECK.says("3: the i-th EDGE, rising");
        HedgeWar x = Check.told(SMALL);
        int before = -1;
        for (int i = 0; i < 4; i++) {
            int e = x.slips(1, 4, 3, i);
            due("rising", e > before ? 1 : 0, 1);
            before = e;
        }
        slipsAre(x, 1, 4, 3, 2, 3, 7, 10);
        due("before the first", x.slips(1, 4, 3, -2), NONE);
        due("far before", x.slips(1, 4, 3, Integer.MIN_VALUE), NONE);
    }

    private static void slipsFewestFields() {
        CHECK.says("3: of all sets of so few that do, the one that leaves the FIELD fewest FIELDS to come to");
        HedgeWar x = Check.told(WIDE + "h14 1 9;h19 1 9;h13 1 9;h18 1 9;h15 1 9;h20 1 9;");
        slipsAre(x, 1, 7, 3, 5, 6);
        slipsAre(x, 1, 6, 3, 4, 5);
        slipsAre(x, 1, 8, 3, 6, 7);
        x.plant(4, 1);
        slipsAre(x, 1, 7, 3, 6);
        slipsAre(x, 1, 6, 3, 5);
        slipsAre(x, 1, 8, 3, 7);
        HedgeWar back = Check.told(WIDE + "h14 1 9;h19 1 9;h13 1 9;h18 1 9;h15 1 9;h20 1 9;h7 1 9;");
        slipsAre(back, 1, 8, 3, 6);
        slipsAre(back, 1, 7, 3, 5);
        slipsAre(back, 1, 6, 3, 4);
    }

    private static void slipsOfAllInside() {
        CHECK.says("3: every way from that FIELD to a FIELD at the rim");
        HedgeWar x = Check.told("g5 5 4;p9;p10;p26;p31;");
        due("12 goes with its four neighbours, and these with four more", x.slips(0, 12, 3, NONE), 12);
        HedgeWar nine = Check.told("g5 5 4;" + Check.hedgesRound(5, 5, 1, 9, 6, 7, 8, 11, 12, 13, 16, 17, 18));
        for (int f : new int[] {6, 7, 8, 11, 12, 13, 16, 17, 18}) {
            slipsAre(nine, 1, f, 1);
        }
        slipsAre(Check.told("g5 5 4;"), 0, 12, 3, 9, 10, 27, 32);
        slipsAre(Check.told("g5 5 4;"), 1, 6, 3, 4, 5, 21, 26);
    }

    private static void decidesOpenGates() {
        CHECK.says("3: DECIDES: open GATES in TALL HEDGES");
        HedgeWar x = Check.told(ringed(1, 3));
        due("no gate is open", x.decides(4, NONE), 0);
        due("none", x.decides(4, 0), NONE);
        x.gate(7, true);
        due("one", x.decides(4, NONE), 1);
        due("which", x.decides(4, 0), 7);
        due("no second", x.decides(4, 1), NONE);
        due("far behind", x.decides(4, Integer.MAX_VALUE), NONE);
        due("before the first", x.decides(4, -2), NONE);
        due("a field at the rim", x.decides(0, NONE), 0);
        HedgeWar low = Check.told("g3 3 4;h2 1 2;h3 1 3;h7 1 3;h10 1 3;");
        low.gate(2, true);
        due("not tall", low.decides(4, NONE), 0);
        low.year(1);
        due("tall", low.decides(4, NONE), 1);
        due("which", low.decides(4, 0), 2);
    }

    private static void decidesEach() {
        CHECK.says("3: DECIDES: of which each, not open, would make a FIELD's LAND SHUT IN");
        HedgeWar two = Check.told(ringed(1, 3));
        two.gate(2, true);
        two.gate(10, true);
        due("only both together", two.decides(4, NONE), 0);
        two.gate(2, false);
        due("the other one", two.decides(4, 0), 10);
        HedgeWar gap = Check.told("g3 3 4;h3 1 3;h7 1 3;h10 1 3;");
        gap.gate(3, true);
        due("a gap", gap.decides(4, NONE), 0);
    }

    private static void decidesRising() {
        CHECK.says("3: DECIDES: EDGES, rising: how many; the i-th; NONE");
        // Round 6 and 7 but for edge 6, which has a gate; edge 5 between them has one, too.
        HedgeWar x = Check.told(WIDE + "h5 1 9;" + Check.hedgesRound(5, 3, 1, 9, 6, 7));
        x.gate(6, true);
        x.gate(5, true);
        due("either shuts 6 in", x.decides(6, NONE), 2);
        due("the first", x.decides(6, 0), 5);
        due("the second", x.decides(6, 1), 6);
        due("no third", x.decides(6, 2), NONE);
        due("one shuts 7 in", x.decides(7, NONE), 1);
        due("which", x.decides(7, 0), 6);
        due("none shuts 8 in", x.decides(8, NONE), 0);
    }

    private static void decidesByWhom() {
        CHECK.says("3: DECIDES: SHUT IN by somebody");
        for (int estate = 0; estate < 2; estate++) {
            HedgeWar x = Check.told(ringed(estate, 3));
            x.gate(3, true);
            due("by " + estate, x.decides(4, 0), 3);
            HedgeWar mixed = Check.told(ringed(estate, 3).replace("h2 " + estate, "h2 " + (1 - estate)));
            mixed.gate(3, true);
            due("by both", mixed.decides(4, NONE), 0);
            HedgeWar own = Check.told(ringed(estate, 3).replace("h3 " + estate, "h3 " + (1 - estate)));
            own.gate(3, true);
            due("the gate's hedge is another's", own.decides(4, NONE), 0);
        }
    }

    /** The document leaves room here; this is how it was taken (NOTES.md). */
    private static void decidesWhatIsShutIn() {
        CHECK.says("3: DECIDES: each, not open, would make a FIELD's LAND SHUT IN (it is already)");
        HedgeWar x = Check.told(ringed(1, 3) + "h0 0 3;h11 1 2;");
        due("no gate is open", x.decides(4, NONE), 0);
        x.gate(0, true);
        x.gate(11, true);
        due("with gate 0 not open, 4 is shut in; 11 is not tall", x.decides(4, NONE), 1);
        due("which", x.decides(4, 0), 0);
        HedgeWar inner = Check.told(WIDE + "h5 0 9;" + Check.hedgesRound(5, 3, 1, 9, 6, 7));
        inner.gate(5, true);
        due("both are shut in", inner.field(6, 3), 1);
        due("it would part them by another's hedge", inner.decides(6, NONE), 0);
        HedgeWar own = Check.told(WIDE + "h5 1 9;" + Check.hedgesRound(5, 3, 1, 9, 6, 7));
        own.gate(5, true);
        due("it would part them", own.decides(6, NONE), 1);
        due("which", own.decides(6, 0), 5);
    }

    private static void tallIn() {
        CHECK.says("3: TALL IN: a slip planted now, if there is none; 0: it is; NONE: a FOOTPATH");
        int[][] rows = {{0, 6}, {2, 4}, {4, 3}, {6, 3}, {8, 2}, {9, 2}};
        for (int[] row : rows) {
            HedgeWar x = Check.told("g2 2 " + row[0] + ";p0;h1 1 1;h2 0 99;");
            due("a footpath", x.tallIn(0), NONE);
            due("1 year old", x.tallIn(1), row[1] - 1);
            due("it is", x.tallIn(2), 0);
            due("no hedge", x.tallIn(3), row[1]);
            x.plant(3, 0);
            due("a slip", x.tallIn(3), row[1]);
            x.year(row[1] - 1);
            due("a year too young", x.tallIn(3), 1);
            x.year(1);
            due("just tall", x.tallIn(3), 0);
            x.gate(3, true);
            due("with a gate", x.tallIn(3), 0);
            x.year(40);
            due("long tall", x.tallIn(3), 0);
        }
    }

    private static void walk() {
        CHECK.says("3: WALK: the fewest EDGES that one crosses, none SHUT; NONE");
        HedgeWar x = Check.told("g5 5 4;");
        due("to itself", x.walk(24, 24), 0);
        due("to the next one", x.walk(0, 5), 1);
        due("from corner to corner", x.walk(0, 24), 8);
        due("and back", x.walk(24, 0), 8);
        due("last of a row, first of the next", x.walk(4, 5), 5);
        HedgeWar hedge = Check.told("g5 2 4;h5 0 9;h4 1 2;h0 0 9;");
        due("over a low one", hedge.walk(5, 6), 1);
        due("round tall ones", hedge.walk(0, 1), 3);
        hedge.gate(0, true);
        due("through a gate", hedge.walk(0, 1), 1);
        hedge.gate(0, false);
        hedge.plant(8, 0);
        hedge.year(3);
        due("shut off", hedge.walk(0, 1), NONE);
        due("to itself", hedge.walk(0, 0), 0);
        // A comb of hedges: one has to go through all the fields.
        HedgeWar snake = Check.told("g5 5 9;h20 0 9;h21 0 9;h22 0 9;h23 0 9;h26 0 9;h27 0 9;h28 0 9;h29 0 9;"
            + "h30 0 9;h31 0 9;h32 0 9;h33 0 9;h36 0 9;h37 0 9;h38 0 9;h39 0 9;");
        due("through all the fields", snake.walk(0, 24), 24);
    }

    private static void turnsYears() {
        CHECK.says("3: TURNS: n years (1 .. 6)");
        HedgeWar poor = Check.told("g3 3 0;h2 1 6;h3 1 6;h7 1 6;");
        due("6 years, tall just in time", poor.turns(1, 6), 1);
        due("5 years are too few", poor.turns(1, 5), 0);
        HedgeWar now = Check.told(ringed(1, 2));
        due("1 year", now.turns(1, 1), 1);
        due("1 year, of 0", now.turns(0, 1), 8);
    }

    private static void turnsInTurn() {
        CHECK.says("3: TURNS: ESTATE A, then the other one, each PLANTS one slip");
        HedgeWar x = Check.told("g3 3 4;h2 1 3;h3 1 3;h7 1 3;");
        due("1 is first", x.turns(1, 3), 1);
        due("0 is first, where 1 would plant", x.turns(0, 3), 9);
        HedgeWar two = Check.told("g3 3 4;h2 1 3;h3 1 3;");
        due("one slip alone", two.turns(1, 6), 0);
        // 6 and 8 want one slip each to go to 1, and 7 has two free edges, 5 and 6, that are the same ones.
        HedgeWar both = Check.told(WIDE + "h4 1 9;h13 1 9;h18 1 9;h7 1 9;h15 1 9;h20 1 9;");
        due("1 takes one, 0 hinders at the other", both.turns(1, 3), 1);
        due("0 hinders at one, 1 takes the other", both.turns(0, 3), 14);
        // The ring about 6, 7, 8 is tall in 2 years, and so are slips between these three.
        HedgeWar inner = Check.told("g5 3 0;s6 9;s7 9;s8 9;" + Check.hedgesRound(5, 3, 1, 1, 6, 7, 8));
        due("0's slip keeps two, 1's takes the third", inner.turns(0, 2), 14);
        due("1's slip takes one, 0's keeps two", inner.turns(1, 2), 1);
        due("not yet", inner.turns(0, 1), 15);
        HedgeWar other = Check.told("g3 3 4;e4;h2 0 3;h3 0 3;h7 0 3;");
        due("0 shuts 1's field in", other.turns(0, 3), 9);
        due("1 keeps it", other.turns(1, 3), 1);
    }

    private static void turnsOrNone() {
        CHECK.says("3: TURNS: on any EDGE that may be, or none");
        HedgeWar full = Check.told("g2 2 9;p0;p1;p2;p3;e0;");
        due("nowhere to plant", full.turns(0, 6), 3);
        due("nowhere to plant", full.turns(1, 6), 1);
        HedgeWar one = Check.told("g3 3 4;p0;p1;p4;p5;p6;p8;p9;p11;h2 1 9;h3 1 9;h7 1 9;");
        due("1 takes the only edge", one.turns(1, 3), 1);
        due("0 takes the only edge, 1 has none", one.turns(0, 3), 9);
        HedgeWar path = Check.told("g3 3 4;p10;h2 1 9;h3 1 9;h7 1 9;");
        due("not on a footpath", path.turns(1, 6), 0);
        HedgeWar gate = Check.told(ringed(1, 9));
        gate.gate(10, true);
        due("not on a hedge with a gate", gate.turns(1, 6), 0);
    }

    private static void turnsYearsGoBy() {
        CHECK.says("3: TURNS: then n years go by: how many A has then");
        HedgeWar x = Check.told(ringed(1, 1));
        due("not tall yet", x.turns(0, 1), 9);
        due("tall in 2 years", x.turns(0, 2), 8);
        due("tall in 2 years", x.turns(1, 2), 1);
        // A slip on 4 or 7 is tall in 3 years, the hedges with it round 6 and 8 are tall in 5.
        HedgeWar late = Check.told("g5 3 0;s5 9;s6 3;s8 3;s9 9;h5 1 1;h13 1 1;h18 1 1;h6 1 1;h15 1 1;h20 1 1;");
        due("tall before the others, and still then", late.turns(0, 5), 14);
        due("tall before the others, and still then", late.turns(1, 6), 1);
        due("the others are not tall yet", late.turns(0, 4), 15);
        HedgeWar land = Check.told(WIDE + "h4 1 9;h13 1 9;h18 1 9;h14 1 9;h19 1 9;h7 1 9;h15 1 9;h20 1 9;");
        due("over in the first March, before a slip is tall", land.turns(0, 3), 12);
        due("years are not counted", land.told(5), 0);
    }

    private static void rootsSix() {
        CHECK.says("3: ROOTS (6 at most): HEIGHT h (0 .. 99); 20: how many, FULL (6)");
        HedgeWar x = Check.told("g5 5 4;p39;");
        due("least", x.root(0, 0), 1);
        due("most, on a footpath", x.root(39, 99), 2);
        for (int k = 3; k <= 6; k++) {
            due("one more", x.root(k, 50), k);
        }
        due("the 7th", x.root(7, 50), FULL);
        due("roots", x.told(10), 6);
        x.tear();
        due("room again", x.root(7, 50), 1);
    }

    private static void plantedAgo() {
        CHECK.says("3: PLANTED AGO: years 0 to 20 (a SET) by which all that is seen of ROOTS is so");
        HedgeWar x = Check.told("g2 2 0;s0 9;s1 9;h2 0 7;");
        due("nothing seen", x.plantedAgo(), ALL_YEARS);
        // By growth: edge 0 by 6, edge 1 by 2, the edges 2, 3 by 4.
        int[][] rows = {{1, 0, 1}, {1, 2, 2}, {1, 38, 1 << 19}, {1, 40, 1 << 20}, {1, 42, 0}, {1, 1, 0}, {1, 99, 0},
            {0, 96, 1 << 16}, {0, 99, 15 << 17}, {0, 98, 0}, {2, 28, 1 << 7}, {3, 16, 1 << 4}};
        for (int[] row : rows) {
            x.root(row[0], row[1]);
            due("edge " + row[0] + " of height " + row[1], x.plantedAgo(), row[2]);
            x.tear();
        }
        x.root(0, 99);
        x.root(1, 36);
        due("both", x.plantedAgo(), 1 << 18);
        x.root(1, 38);
        due("all three", x.plantedAgo(), 0);
        due("no fields", new HedgeWar().plantedAgo(), ALL_YEARS);
    }

    private static void lookAtBest() {
        CHECK.says("3: LOOK AT: the greatest part that is alike is least (FOOTPATHS, too)");
        // Edges by growth: 0 by 6, 1 by 2, 2 by 4, 3 by 4: heights of 99 at 17 years; else none alike.
        HedgeWar x = Check.told("g2 2 0;s0 9;s1 9;p1;");
        due("not edge 0, but the footpath", x.lookAt(), 1);
        HedgeWar rich = Check.told("g2 2 9;");
        due("17 to 20 are alike, the others not", rich.lookAt(), 0);
    }

    private static void lookAtLeast() {
        CHECK.says("3: LOOK AT: of like ones the least");
        due("all alike", Check.told("g5 5 0;").lookAt(), 0);
        due("a hedge there or not", Check.told("g2 2 0;h0 1 9;").lookAt(), 0);
        due("0 is worse", Check.told("g2 2 0;s0 9;s1 9;").lookAt(), 1);
        // All edges grow by 6 but for the last, which grows by 5.
        due("the last is best", Check.told("g2 2 9;s1 7;s3 7;").lookAt(), 3);
    }

    private static void lookAtNone() {
        CHECK.says("3: LOOK AT; NONE: none parts them");
        due("no edges", new HedgeWar().lookAt(), NONE);
        HedgeWar one = Check.told("g2 2 0;");
        one.root(0, 8);
        due("one year", one.lookAt(), NONE);
        one.root(0, 9);
        due("no year", one.lookAt(), NONE);
        one.tear();
        one.root(0, 0);
        due("year 0 alone", one.lookAt(), NONE);
        one.tear();
        one.root(0, 40);
        due("year 20 alone", one.lookAt(), NONE);
        HedgeWar rich = Check.told("g2 2 9;");
        rich.root(0, 99);
        due("four years, alike everywhere", rich.lookAt(), NONE);
        HedgeWar poor = Check.told("g2 2 9;s2 0;s3 0;");
        poor.root(0, 99);
        due("four years, parted elsewhere", poor.lookAt(), 1);
    }

    private static void largestParish() {
        CHECK.says("1, 3: the largest PARISH, up to its last FIELD and EDGE");
        // In 5 columns, 5 rows 18 is the last field inside, with the edges 14, 15, 33, 38 round it.
        HedgeWar x = Check.told("g5 5 4;h14 1 9;h15 1 9;h33 1 9;h38 1 9;h39 1 9;h19 0 9;");
        x.gate(38, true);
        x.gate(39, true);
        due("decides", x.decides(18, NONE), 1);
        due("which", x.decides(18, 0), 38);
        due("at the rim", x.decides(24, NONE), 0);
        x.graze(38);
        due("slips", x.slips(1, 18, 3, NONE), 1);
        due("which", x.slips(1, 18, 3, 0), 38);
        due("turns", x.turns(1, 3), 1);
        due("turns", x.turns(0, 3), 25);
        due("tall in", x.tallIn(39), 0);
        due("walk", x.walk(24, 23), 7);
        due("look at", x.lookAt(), 0);
        due("root", x.root(39, 80), 1);
        due("planted ago", x.plantedAgo(), 1 << 20);
        due("write", x.write(24, 1), 1);
        due("wrong", x.judge(), 0);
    }

    private static void birds() {
        CHECK.says("3: n birds (0 .. 60), each by q of a hundred (0 .. 100)");
        HedgeWar x = new HedgeWar();
        due("no birds", x.birds(0, 0), 1000000000);
        due("no birds that all sow", x.birds(0, 100), 1000000000);
        due("60 that never sow", x.birds(60, 0), 1000000000);
        due("one that always sows", x.birds(1, 100), 0);
        due("60 that always sow", x.birds(60, 100), 0);
        due("one", x.birds(1, 1), 990000000);
        due("one", x.birds(1, 99), 10000000);
        due("five", x.birds(4, 99), 10);
        due("six", x.birds(5, 99), 0);
    }

    private static void birdsCutEach() {
        CHECK.says("3: BIRDS: / 100 each (cut)");
        HedgeWar x = new HedgeWar();
        due("not cut yet", x.birds(4, 33), 201511210);
        due("cut once", x.birds(5, 33), 135012510);
        due("cut twice", x.birds(6, 33), 90458381);
        long odds = 1000000000L;
        for (int n = 0; n <= 60; n++) {
            due(n + " birds", x.birds(n, 7), odds);
            odds = odds * 93 / 100;
        }
    }

    private static void bookFifteen() {
        CHECK.says("3: THE BOOK (15 at most); 23: how many, FULL (15)");
        HedgeWar x = Check.told("g5 5 4;");
        for (int k = 1; k <= 15; k++) {
            due("entry", x.write(25 - k, k == 15 ? 1 : 0), k);
        }
        due("the 16th", x.write(0, 1), FULL);
        due("entries", x.told(11), 15);
        due("the last is read, too", x.judge(), 14);
        x.tear();
        due("room again", x.write(0, 0), 1);
    }

    private static void wrongTheFirst() {
        CHECK.says("3: WRONG: the first that is otherwise now; NONE");
        HedgeWar x = Check.told(ringed(1, 3) + "e0;");
        due("an empty book", x.judge(), NONE);
        due("no fields", new HedgeWar().judge(), NONE);
        x.write(0, 1);
        x.write(4, 0);
        x.write(8, 0);
        due("all so", x.judge(), NONE);
        x.write(8, 1);
        x.write(0, 0);
        due("the first of two", x.judge(), 3);
        x.year(1);
        due("as it is now", x.judge(), 1);
        x.undo();
        due("as it is again", x.judge(), 3);
        x.tear();
        x.write(0, 0);
        due("entry 0", x.judge(), 0);
    }

    private static void torn() {
        CHECK.says("24: No ROOTS, THE BOOK is empty: how much both had");
        HedgeWar x = Check.told(SMALL);
        due("nothing", x.tear(), 0);
        for (int k = 0; k < 6; k++) {
            x.root(0, 4);
        }
        due("roots alone", x.tear(), 6);
        for (int k = 0; k < 15; k++) {
            x.write(0, 1);
        }
        due("entries alone", x.tear(), 15);
        x.root(0, 1);
        for (int k = 0; k < 5; k++) {
            x.root(0, 4);
        }
        for (int k = 0; k < 15; k++) {
            x.write(0, 1);
        }
        due("both full", x.tear(), 21);
        due("roots", x.told(10), 0);
        due("entries", x.told(11), 0);
        due("years", x.plantedAgo(), ALL_YEARS);
        due("none wrong", x.judge(), NONE);
        due("again", x.tear(), 0);
    }

    private static void seeds() {
        CHECK.says("26: THE SEED becomes v (0 .. 2147483647): what it was; 0 at first");
        HedgeWar x = new HedgeWar();
        due("at first", x.seed(2147483647), 0);
        due("the greatest", x.seed(0), 2147483647);
        due("the least", x.seed(1), 0);
        due("below", x.seed(-1), HedgeWar.OUTSIDE);
        Check.tell(x, SMALL);
        due("behind parish()", x.seed(1), 1);
    }

    private static void draws() {
        CHECK.says("3: it times 1103515245 and 12345, left over by 2 to the 31; / 65536, left over by n");
        HedgeWar x = Check.told(SMALL);
        x.drift(1);
        due("a draw of 12 is 0, of 2 is 0", x.edge(0, 2), 0);
        due("one hedge", x.told(6), 1);
        due("12345, 1406932606", x.seed(1406932606), 1406932606);
        x.drift(1);
        due("a draw of 12 is 4, of 2 is 1", x.edge(4, 2), 1);
        due("654583775, 1449466924", x.seed(2147483647), 1449466924);
        x.drift(1);
        due("a draw of 12 is 5, of 2 is 1", x.edge(5, 2), 1);
        due("1043980748, 288979989", x.seed(288979989), 288979989);
        x.drift(1);
        due("a draw of 12 is 10, of 2 is 0", x.edge(10, 2), 0);
        due("646343466, 1751031067", x.seed(0), 1751031067);
        due("hedges", x.told(6), 4);
    }

    private static void drawsAheadOfEach() {
        CHECK.says("3: n YEARS: ahead of each a DRAW of EDGES, a DRAW of 2; then the YEAR");
        HedgeWar x = Check.told(SMALL);
        x.drift(3);
        due("years", x.told(5), 3);
        due("the first is 3 years old", x.edge(0, 3), 3);
        due("the second 2", x.edge(4, 3), 2);
        due("the third 1", x.edge(6, 3), 1);
        due("it is 1's", x.edge(6, 2), 1);
        due("six draws", x.seed(0), 1109335178);
        due("one call is undone as one", x.undo(), 0);
        due("March, too", Check.told(ringed(1, 2)).drift(1), 1);
    }

    private static void drawsIfItMayBe() {
        CHECK.says("3: a slip is PLANTED there, if it may be");
        HedgeWar path = Check.told("g3 3 4;p0;");
        path.drift(1);
        due("not on a footpath", path.told(6), 0);
        due("drawn all the same", path.seed(0), 1406932606);
        HedgeWar hedge = Check.told("g3 3 4;h0 1 9;");
        hedge.drift(1);
        due("not on a hedge", hedge.edge(0, 3), 10);
        due("whose it stays", hedge.edge(0, 2), 1);
        due("drawn all the same", hedge.seed(0), 1406932606);
    }

    private static void imagesTwo() {
        CHECK.says("3: IMAGES 0, 1; 28: NOT: it was not kept");
        HedgeWar x = Check.told(SMALL);
        due("0", x.goBack(0), NOT);
        due("1", x.goBack(1), NOT);
        due("keep 1", x.keep(1), 1);
        due("0 still", x.goBack(0), NOT);
        due("1", x.goBack(1), 1);
        x.year(5);
        due("keep 0", x.keep(0), 1);
        due("back to 1", x.goBack(1), 1);
        due("years", x.told(5), 0);
        due("forth to 0", x.goBack(0), 1);
        due("years", x.told(5), 5);
        x.year(1);
        due("over 0", x.keep(0), 1);
        x.goBack(1);
        x.goBack(0);
        due("years", x.told(5), 6);
        Check.tell(x, SMALL);
        due("gone with the parish", x.goBack(0), NOT);
        due("gone with the parish", x.goBack(1), NOT);
    }

    private static void imagesKeep() {
        CHECK.says("3: IMAGES keep these (HEDGES, GATES, whose FIELDS are, YEARS), THE SEED; 27, 28: nothing can be undone then");
        HedgeWar x = Check.told(ringed(1, 3));
        x.seed(11);
        x.year(1);
        x.gate(2, true);
        x.plant(0, 0);
        x.keep(0);
        due("nothing to undo", x.told(12), 0);
        x.seed(12);
        x.gate(2, false);
        x.graze(0);
        x.graze(3);
        x.root(0, 4);
        x.write(4, 0);
        x.feed('g');
        x.drift(9);
        due("something to undo", x.told(12), 4);
        due("back", x.goBack(0), 1);
        due("nothing to undo", x.told(12), 0);
        due("undo", x.undo(), NOT);
        due("seed", x.seed(0), 11);
        due("years", x.told(5), 1);
        due("hedges", x.told(6), 5);
        due("slip", x.edge(0, 3), 0);
        due("whose", x.edge(0, 2), 0);
        due("age", x.edge(3, 3), 4);
        due("gate", x.edge(2, 5), 1);
        due("field", x.field(4, 1), 1);
        due("roots stay", x.told(10), 1);
        due("the book stays", x.told(11), 1);
        due("the text stays", x.told(4), 1);
        x.graze(0);
        due("back again", x.goBack(0), 1);
        due("the image is still as kept", x.edge(0, 3), 0);
    }

    private static void imagesOnNoFields() {
        CHECK.says("27, 28: on a new object");
        HedgeWar x = new HedgeWar();
        x.seed(4);
        due("keep", x.keep(0), 1);
        x.seed(5);
        due("back", x.goBack(0), 1);
        due("seed", x.seed(0), 4);
        due("fields", x.told(2), 0);
    }
}
