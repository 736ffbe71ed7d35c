/** The Terms' part 2, HEIGHT and LAND, and promises 5 to 13: each sentence with a bound, on both sides of the bound. */
public final class LandTermsTest {
    private static final Check CHECK = new Check();
    private static final int NONE = HedgeWar.NONE, NOT = HedgeWar.NOT, FULL = HedgeWar.FULL;

    /** By how much a hedge grows a year, by the soil of both its fields together. */
    private static final int[] GROWTH = {2, 2, 2, 2, 3, 3, 3, 3, 4, 4, 4, 4, 5, 5, 5, 5, 6, 6, 6};
    /** Field 4 in 3 columns, 3 rows has the edges 2, 3, 7, 10 round it; soil 4: tall at 3 years. */
    private static final int[] ROUND = {2, 3, 7, 10};
    private static final String SMALL = "g3 3 4;";

    public static void main(String[] args) {
        growth();
        mostHeight();
        tall();
        shut();
        land();
        landFromBothSides();
        rim();
        landAtTheRim();
        shutInByOne();
        shutInByNobody();
        shutInOverInnerHedges();
        shutInRoundALand();
        planted();
        plantedOnAll();
        grazed();
        grazedAlone();
        gates();
        gateInALowHedge();
        ages();
        yearThenMarch();
        atOnce();
        fieldsStay();
        yearsAreCounted();
        lastYears();
        acresAndFrontier();
        undoneOfEachKind();
        undoneTwenty();
        undoneNot();
        seedStays();
        CHECK.end();
    }

    private static void due(String call, long got, long want) {
        CHECK.due(call, got, want);
    }

    private static String ringed(int estate, int age) {
        return SMALL + Check.hedgesRound(3, 3, estate, age, 4);
    }

    private static void growth() {
        CHECK.says("2: AGE times (2 and SOIL of both its FIELDS together / 4); / cuts towards 0");
        for (int a = 0; a <= 9; a++) {
            for (int b = 0; b <= 9; b++) {
                HedgeWar x = Check.told("g2 2 0;s0 " + a + ";s1 " + b + ";s2 " + b + ";h0 0 1;h2 1 3;");
                due("soils " + a + ", " + b + ", 1 year", x.edge(0, 4), GROWTH[a + b]);
                due("soils " + a + ", " + b + ", 3 years", x.edge(2, 4), 3 * GROWTH[a + b]);
            }
        }
    }

    private static void mostHeight() {
        CHECK.says("2: HEIGHT (99 at most)");
        int[][] rows = {{0, 49, 98}, {0, 50, 99}, {0, 99, 99}, {2, 32, 96}, {2, 33, 99}, {2, 34, 99}, {4, 24, 96},
            {4, 25, 99}, {6, 19, 95}, {6, 20, 99}, {8, 16, 96}, {8, 17, 99}, {9, 99, 99}};
        for (int[] row : rows) {
            HedgeWar x = Check.told("g2 2 " + row[0] + ";h1 0 " + row[1] + ";");
            due("soil " + row[0] + ", age " + row[1], x.edge(1, 4), row[2]);
        }
        HedgeWar x = Check.told("g2 2 0;h0 0 50;");
        due("without a hedge", x.edge(1, 4), 0);
        x.plant(1, 0);
        due("a slip", x.edge(1, 4), 0);
    }

    private static void tall() {
        CHECK.says("2: it is TALL from 12 on");
        int[][] rows = {{0, 6}, {2, 4}, {4, 3}, {6, 3}, {8, 2}, {9, 2}};
        for (int[] row : rows) {
            HedgeWar x = Check.told("g2 2 " + row[0] + ";h0 0 " + (row[1] - 1) + ";h1 0 " + row[1] + ";");
            due("soil " + row[0] + ", a year too young", x.edge(0, 7), 0);
            due("soil " + row[0] + ", old enough", x.edge(1, 7), 1);
            due("tall in a year", x.tallIn(0), 1);
            due("tall now", x.tallIn(1), 0);
            x.year(1);
            due("a year later", x.edge(0, 7), 1);
        }
    }

    private static void shut() {
        CHECK.says("2: SHUT, if a TALL HEDGE without an open GATE is on it");
        HedgeWar x = Check.told("g3 3 4;p0;h1 0 2;h2 1 3;");
        due("a footpath", x.edge(0, 7), 0);
        due("not tall", x.edge(1, 7), 0);
        due("tall", x.edge(2, 7), 1);
        due("no hedge", x.edge(3, 7), 0);
        x.gate(2, true);
        due("an open gate", x.edge(2, 7), 0);
        x.gate(2, false);
        due("a gate not open", x.edge(2, 7), 1);
        x.gate(1, true);
        x.year(1);
        due("tall now, an open gate", x.edge(1, 7), 0);
        x.graze(2);
        due("gone", x.edge(2, 7), 0);
    }

    private static void land() {
        CHECK.says("2: LAND: all FIELDS that one comes to over EDGES that are not SHUT");
        HedgeWar all = Check.told("g5 5 4;");
        for (int f = 0; f < 25; f++) {
            due("no hedges: " + f, all.field(f, 2), 25);
        }
        // All but the edges 0, 4 (the first two of a 5 by 2 parish's rows) are shut: 0, 1 and 5, 6 go together.
        HedgeWar rows = Check.told("g5 2 9;h1 0 2;h2 1 2;h3 0 2;h5 0 2;h6 0 2;h7 0 2;h8 1 2;h9 1 2;h10 0 2;h11 0 2;h12 0 2;");
        int[] wants = {2, 2, 1, 1, 1, 2, 2, 1, 1, 1};
        for (int f = 0; f < 10; f++) {
            due("land of " + f, rows.field(f, 2), wants[f]);
        }
        rows.gate(9, true);
        due("through a gate", rows.field(5, 2), 4);
        rows.gate(9, false);
        due("not through it", rows.field(5, 2), 2);
        HedgeWar low = Check.told(ringed(0, 2));
        due("over low hedges", low.field(4, 2), 9);
        low.year(1);
        due("not over tall ones", low.field(4, 2), 1);
        due("round them", low.field(0, 2), 8);
    }

    private static void landFromBothSides() {
        CHECK.says("2: LAND: all FIELDS that one comes to, from two sides at once, too");
        // One hedge between the middle fields; one comes round it by the left and by the right.
        HedgeWar wide = Check.told("g3 2 9;h5 0 9;");
        due("3 by 2", wide.field(1, 2), 6);
        due("3 by 2", wide.field(4, 2), 6);
        due("round it", wide.walk(1, 4), 3);
        HedgeWar high = Check.told("g2 3 9;h1 0 9;");
        due("2 by 3", high.field(2, 2), 6);
        due("2 by 3", high.field(3, 2), 6);
        due("round it", high.walk(2, 3), 3);
    }

    private static void rim() {
        CHECK.says("2: a FIELD at the rim (first or last row, column) is open");
        for (int w = 2; w <= 5; w++) {
            for (int h = 2; h <= 5; h++) {
                for (int f = 0; f < w * h; f++) {
                    boolean inside = f % w > 0 && f % w < w - 1 && f / w > 0 && f / w < h - 1;
                    HedgeWar x = Check.told("g" + w + " " + h + " 9;" + Check.hedgesRound(w, h, 1, 9, f));
                    due(w + " by " + h + ", " + f + " alone", x.field(f, 2), 1);
                    due(w + " by " + h + ", " + f + " shut in by", x.field(f, 3), inside ? 1 : NONE);
                    due(w + " by " + h + ", " + f + " in March", x.year(1), inside ? 1 : 0);
                }
            }
        }
    }

    private static void landAtTheRim() {
        CHECK.says("2: LAND with a FIELD at the rim is open");
        // In 4 columns, 4 rows 5, 6, 9, 10 are inside.
        int[][] lands = {{5, 1}, {5, 4}, {6, 7}, {9, 13}, {5, 6, 10, 14}};
        for (int[] land : lands) {
            HedgeWar x = Check.told("g4 4 9;" + Check.hedgesRound(4, 4, 0, 9, land));
            for (int f : land) {
                due("land of " + f, x.field(f, 2), land.length);
                due("open: " + f, x.field(f, 3), NONE);
            }
        }
        int[][] inside = {{5, 6}, {5, 9}, {5, 6, 10}, {5, 6, 9, 10}};
        for (int[] land : inside) {
            HedgeWar x = Check.told("g4 4 9;" + Check.hedgesRound(4, 4, 0, 9, land));
            for (int f : land) {
                due("land of " + f, x.field(f, 2), land.length);
                due("not open: " + f, x.field(f, 3), 0);
            }
        }
    }

    private static void shutInByOne() {
        CHECK.says("2: SHUT IN by A: all HEDGES on SHUT EDGES round it are of ESTATE A");
        for (int estate = 0; estate < 2; estate++) {
            HedgeWar x = Check.told(ringed(estate, 3));
            due("by " + estate, x.field(4, 3), estate);
            due("round it: nobody", x.field(0, 3), NONE);
            for (int e : ROUND) {
                HedgeWar gap = Check.told(ringed(estate, 3));
                gap.graze(e);
                due("a gap at " + e, gap.field(4, 3), NONE);
                HedgeWar gate = Check.told(ringed(estate, 3));
                gate.gate(e, true);
                due("a gate at " + e, gate.field(4, 3), NONE);
            }
        }
    }

    private static void shutInByNobody() {
        CHECK.says("2: not SHUT IN, if one of the HEDGES is the other ESTATE's");
        for (int estate = 0; estate < 2; estate++) {
            for (int e : ROUND) {
                String ring = ringed(estate, 3);
                String one = "h" + e + " " + estate;
                HedgeWar x = Check.told(ring.replace(one, "h" + e + " " + (1 - estate)));
                due("one at " + e, x.field(4, 3), NONE);
                due("land", x.field(4, 2), 1);
                x.year(1);
                due("it stays", x.field(4, 1), 0);
            }
        }
    }

    private static void shutInOverInnerHedges() {
        CHECK.says("2: HEDGES round it, not within it");
        // The hedge between 5 and 6 has the same land on both sides.
        HedgeWar x = Check.told("g4 4 9;h4 0 9;" + Check.hedgesRound(4, 4, 1, 9, 5, 6, 9, 10));
        due("land", x.field(5, 2), 4);
        due("by", x.field(6, 3), 1);
    }

    private static void shutInRoundALand() {
        CHECK.says("2: a LAND round another one");
        int[] eight = {6, 7, 8, 11, 13, 16, 17, 18};
        int[] nine = {6, 7, 8, 11, 12, 13, 16, 17, 18};
        String outer = "g5 5 9;" + Check.hedgesRound(5, 5, 1, 9, nine);
        HedgeWar mixed = Check.told(outer + Check.hedgesRound(5, 5, 0, 9, 12));
        due("the inner one", mixed.field(12, 3), 0);
        due("the outer one has hedges of both", mixed.field(eight[0], 3), NONE);
        due("the outer land", mixed.field(eight[0], 2), 8);
        due("March", mixed.year(1), 0);
        HedgeWar same = Check.told(outer + Check.hedgesRound(5, 5, 1, 9, 12));
        due("the inner one", same.field(12, 3), 1);
        due("the outer one", same.field(eight[7], 3), 1);
        due("March", same.year(1), 9);
    }

    private static void planted() {
        CHECK.says("2: PLANTED: a HEDGE of AGE 0 on an EDGE without HEDGE or FOOTPATH; 8: HEDGES");
        HedgeWar x = Check.told("g2 2 0;p0;h1 0 1;");
        due("where a footpath is", x.plant(0, 0), NOT);
        due("where a hedge is", x.plant(1, 1), NOT);
        due("it is still 0's", x.edge(1, 2), 0);
        due("of 0", x.plant(2, 0), 2);
        due("of 1", x.plant(3, 1), 3);
        due("estate", x.edge(2, 2), 0);
        due("estate", x.edge(3, 2), 1);
        due("age", x.edge(3, 3), 0);
        due("height", x.edge(3, 4), 0);
        due("gate", x.edge(3, 5), 0);
    }

    private static void plantedOnAll() {
        CHECK.says("8: HEDGES, on every EDGE there is");
        HedgeWar x = Check.told("g5 5 9;");
        for (int e = 0; e < 40; e++) {
            due("plant " + e, x.plant(e, e % 2), e + 1);
        }
        due("hedges", x.told(6), 40);
        for (int e = 0; e < 40; e++) {
            due("estate of " + e, x.edge(e, 2), e % 2);
            due("again " + e, x.plant(e, 0), NOT);
        }
        x.year(2);
        for (int f = 0; f < 25; f++) {
            due("land of " + f, x.field(f, 2), 1);
        }
    }

    private static void grazed() {
        CHECK.says("2: GRAZED: the HEDGE is gone, its GATE, too; 9: its AGE");
        HedgeWar x = Check.told("g2 2 0;h0 1 99;h1 0 1;");
        x.gate(0, true);
        x.plant(2, 1);
        due("the oldest", x.graze(0), 99);
        due("a young one", x.graze(1), 1);
        due("a slip", x.graze(2), 0);
        due("hedges", x.told(6), 0);
        due("no hedge", x.edge(0, 2), NONE);
        due("no age", x.edge(0, 3), NONE);
        due("no gate", x.edge(0, 5), 0);
        due("once", x.graze(0), NOT);
        due("anew", x.plant(0, 0), 1);
        due("anew, whose", x.edge(0, 2), 0);
        due("anew, age", x.edge(0, 3), 0);
        due("anew, the gate is gone", x.gate(0, false), 0);
    }

    private static void grazedAlone() {
        CHECK.says("2: GRAZED: the HEDGE, no other one");
        HedgeWar x = Check.told("g2 2 0;h0 1 7;h1 1 8;h2 0 9;h3 1 10;");
        x.gate(1, true);
        x.gate(2, true);
        x.graze(0);
        due("hedges", x.told(6), 3);
        int[] estates = {NONE, 1, 0, 1};
        int[] gates = {0, 1, 1, 0};
        for (int e = 1; e < 4; e++) {
            due("estate of " + e, x.edge(e, 2), estates[e]);
            due("age of " + e, x.edge(e, 3), 7 + e);
            due("gate of " + e, x.edge(e, 5), gates[e]);
        }
        due("where it stood, a slip", x.tallIn(0), 6);
        HedgeWar ring = Check.told(ringed(1, 9));
        ring.graze(10);
        due("where 1's stood, 0's can stand", ring.turns(0, 3), 9);
    }

    private static void gates() {
        CHECK.says("2: none at first: not; 10: 1 it was, 0 not");
        HedgeWar x = Check.told("g2 2 0;h0 1 9;");
        x.plant(1, 0);
        for (int e = 0; e < 2; e++) {
            due("at first", x.edge(e, 5), 0);
            due("not, again", x.gate(e, false), 0);
            due("opened", x.gate(e, true), 0);
            due("opened again", x.gate(e, true), 1);
            due("open", x.edge(e, 5), 1);
            due("not open", x.gate(e, false), 1);
            due("not", x.edge(e, 5), 0);
        }
        due("each of these can be undone", x.told(12), 9);
    }

    private static void gateInALowHedge() {
        CHECK.says("2: A GATE in a HEDGE, tall or not");
        HedgeWar x = Check.told(ringed(1, 2));
        due("opened", x.gate(2, true), 0);
        due("March", x.year(1), 0);
        due("still open", x.edge(2, 5), 1);
        x.gate(2, false);
        due("the next March", x.year(1), 1);
    }

    private static void ages() {
        CHECK.says("2: all AGES are 1 more (99 at most)");
        HedgeWar x = Check.told("g2 2 0;h0 0 97;h1 1 99;");
        x.plant(2, 0);
        int[][] rows = {{98, 99, 1}, {99, 99, 2}, {99, 99, 3}};
        for (int[] row : rows) {
            x.year(1);
            due("of 97", x.edge(0, 3), row[0]);
            due("of 99", x.edge(1, 3), row[1]);
            due("of a slip", x.edge(2, 3), row[2]);
            due("no hedge", x.edge(3, 3), NONE);
        }
        x.year(40);
        due("40 years on", x.edge(2, 3), 43);
        x.year(40);
        due("80 years on", x.edge(2, 3), 83);
        x.year(40);
        due("120 years on", x.edge(2, 3), 99);
    }

    private static void yearThenMarch() {
        CHECK.says("2: then, in March");
        HedgeWar x = Check.told(ringed(1, 2));
        due("not shut in yet", x.field(4, 3), NONE);
        due("tall this year, over this March", x.year(1), 1);
        HedgeWar slips = Check.told(SMALL);
        for (int e : ROUND) {
            slips.plant(e, 1);
        }
        due("2 years", slips.year(2), 0);
        due("1 more", slips.year(1), 1);
        HedgeWar now = Check.told(ringed(1, 3));
        due("shut in", now.field(4, 3), 1);
        due("not over ahead of March", now.field(4, 1), 0);
    }

    private static void atOnce() {
        CHECK.says("2: all FIELDS that are SHUT IN by A become A's, at once");
        // In 5 columns, 3 rows 6, 7, 8 are inside: 6 goes to 1, 8 to 0, 7 has hedges of both.
        HedgeWar x = Check.told("g5 3 9;e8;e7;" + Check.hedgesRound(5, 3, 1, 9, 6) + Check.hedgesRound(5, 3, 0, 9, 8)
            + "h14 0 9;h19 0 9;");
        due("acres of 1", x.year(1), 2);
        due("6", x.field(6, 1), 1);
        due("7", x.field(7, 1), 1);
        due("8", x.field(8, 1), 0);
        HedgeWar three = Check.told("g5 3 9;e7;" + Check.hedgesRound(5, 3, 1, 9, 6, 7, 8));
        due("a land of both estates' fields", three.year(1), 3);
        HedgeWar back = Check.told("g5 3 9;e7;e0;" + Check.hedgesRound(5, 3, 0, 9, 6, 7, 8));
        due("over to 0", back.year(1), 1);
        due("the rim stays", back.field(0, 1), 1);
    }

    private static void fieldsStay() {
        CHECK.says("2: only FIELDS that are SHUT IN go over");
        HedgeWar x = Check.told(ringed(1, 3));
        x.year(1);
        x.gate(2, true);
        due("open again", x.year(40), 1);
        x.graze(3);
        due("a gap", x.year(40), 1);
        HedgeWar open = Check.told("g5 5 9;e0;e12;");
        due("no hedges", open.year(40), 2);
    }

    private static void yearsAreCounted() {
        CHECK.says("2: YEARS are counted; 11, 12: n YEARS (1 .. 40)");
        HedgeWar x = Check.told(SMALL);
        due("at first", x.told(5), 0);
        x.year(1);
        due("1", x.told(5), 1);
        x.year(40);
        due("40 more", x.told(5), 41);
        x.drift(1);
        due("1 more", x.told(5), 42);
        x.drift(40);
        due("40 more", x.told(5), 82);
    }

    private static HedgeWar atYear9000() {
        HedgeWar x = Check.told("g2 2 0;e3;");
        for (int k = 0; k < 225; k++) {
            x.year(40);
        }
        return x;
    }

    private static void lastYears() {
        CHECK.says("11, 12: FULL: YEARS are above 9000");
        HedgeWar x = atYear9000();
        due("9000", x.told(5), 9000);
        due("not above", x.year(40), 1);
        due("9040", x.told(5), 9040);
        due("above", x.year(1), FULL);
        due("undone", x.undo(), 19);
        due("by draws", x.drift(40), 1);
        due("9040", x.told(5), 9040);
        due("above", x.drift(1), FULL);
        x.undo();
        due("one more", x.year(1), 1);
        due("9001", x.told(5), 9001);
        due("above", x.year(1), FULL);
        due("above", x.drift(1), FULL);
        due("plant all the same", x.plant(0, 0) < 0 ? 1 : 0, 0);
    }

    private static void acresAndFrontier() {
        CHECK.says("3: ACRES: how many FIELDS. FRONTIER: EDGES between FIELDS of unlike ESTATES");
        HedgeWar none = Check.told("g5 5 0;");
        due("all of 0", none.told(9), 0);
        HedgeWar all = Check.told("g2 2 0;e0;e1;e2;e3;");
        due("all of 1", all.told(9), 0);
        due("acres of 0", all.told(7), 0);
        due("acres of 1", all.told(8), 4);
        HedgeWar squares = Check.told("g5 5 0;e1;e3;e5;e7;e9;e11;e13;e15;e17;e19;e21;e23;");
        due("no like ones side by side", squares.told(9), 40);
        due("acres of 0", squares.told(7), 13);
        due("acres of 1", squares.told(8), 12);
        due("a corner", Check.told("g5 5 0;e24;").told(9), 2);
        due("at the rim", Check.told("g5 5 0;e10;").told(9), 3);
        due("inside", Check.told("g5 5 0;e12;").told(9), 4);
        due("last and first of rows", Check.told("g5 2 0;e4;e5;").told(9), 4);
        due("hedges or not", Check.told("g2 2 0;e0;h0 0 9;h2 0 9;").told(9), 2);
    }

    private static void undoneOfEachKind() {
        CHECK.says("3: UNDONE: HEDGES, GATES, whose FIELDS are, YEARS are as ahead of it; 13: how many more can be");
        HedgeWar x = Check.told(ringed(1, 2));
        x.plant(0, 0);
        due("plant", x.undo(), 0);
        due("no hedge", x.edge(0, 2), NONE);
        x.gate(2, true);
        x.graze(2);
        due("graze", x.undo(), 1);
        due("age", x.edge(2, 3), 2);
        due("estate", x.edge(2, 2), 1);
        due("its gate, too", x.edge(2, 5), 1);
        due("gate", x.undo(), 0);
        due("not open", x.edge(2, 5), 0);
        x.gate(2, true);
        x.gate(2, false);
        x.undo();
        due("open again", x.edge(2, 5), 1);
        x.undo();
        due("year", x.year(3), 1);
        due("undone as one", x.undo(), 0);
        due("ages", x.edge(7, 3), 2);
        due("fields", x.told(8), 0);
        due("years", x.told(5), 0);
        due("drift", x.drift(3), 1);
        due("undone as one", x.undo(), 0);
        due("hedges", x.told(6), 4);
        due("ages", x.edge(7, 3), 2);
        due("fields", x.told(8), 0);
        due("years", x.told(5), 0);
        due("none", x.undo(), NOT);
    }

    private static void undoneTwenty() {
        CHECK.says("3: UNDONE: 20 at most are kept, the oldest are lost");
        for (int done = 19; done <= 45; done++) {
            HedgeWar x = Check.told(SMALL);
            for (int k = 0; k < done; k++) {
                x.year(1);
            }
            int kept = Math.min(20, done);
            due("kept of " + done, x.told(12), kept);
            for (int k = kept - 1; k >= 0; k--) {
                due("undo", x.undo(), k);
                due("years", x.told(5), done - kept + k);
            }
            due("the oldest are lost", x.undo(), NOT);
            due("years", x.told(5), done - kept);
            x.year(1);
            due("one more", x.undo(), 0);
        }
    }

    private static void undoneNot() {
        CHECK.says("3: UNDONE: plant(), graze(), gate(), year(), drift() that was not refused, nothing else");
        HedgeWar x = Check.told(ringed(1, 3) + "p0;");
        x.plant(2, 0);
        x.graze(0);
        x.gate(0, true);
        x.year(0);
        x.drift(41);
        due("refused", x.told(12), 0);
        x.root(0, 4);
        x.write(0, 1);
        x.seed(9);
        x.feed('g');
        x.tear();
        x.slips(1, 4, 3, NONE);
        x.turns(0, 3);
        due("others", x.told(12), 0);
        x.plant(1, 0);
        x.root(0, 4);
        x.write(0, 1);
        x.undo();
        due("roots stay", x.told(10), 1);
        due("the book stays", x.told(11), 1);
        due("the text stays", x.told(4), 1);
        x.plant(1, 0);
        x.keep(0);
        due("behind keep()", x.undo(), NOT);
        x.graze(1);
        x.goBack(0);
        due("behind goBack()", x.undo(), NOT);
        due("the slip is there", x.edge(1, 3), 0);
    }

    private static void seedStays() {
        CHECK.says("3: UNDONE: THE SEED stays");
        HedgeWar x = Check.told(SMALL);
        x.drift(1);
        x.undo();
        due("the seed of two draws", x.seed(5), 1406932606);
        x.plant(0, 0);
        x.seed(6);
        x.undo();
        due("the seed", x.seed(0), 6);
    }
}
