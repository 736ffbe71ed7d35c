/** What is due by hand, promise by promise. */
public final class PromisesTest {
    private static final Check CHECK = new Check();
    private static final int NONE = HedgeWar.NONE, UNKNOWN = HedgeWar.UNKNOWN, OUTSIDE = HedgeWar.OUTSIDE;
    private static final int NOT = HedgeWar.NOT, FULL = HedgeWar.FULL;

    /** Field 4 is inside; its edges are 2, 3, 7, 10. Every hedge grows by 4: tall at 3. */
    private static final String SMALL = "g3 3 4;";
    /** SMALL, and field 4 has tall hedges of estate 1 on all sides. */
    private static final String RINGED = "g3 3 4;h2 1 3;h3 1 3;h7 1 3;h10 1 3;";

    private static void due(String call, long got, long want) {
        CHECK.due(call, got, want);
    }

    public static void main(String[] args) {
        newObject();
        feed();
        parish();
        parishForgets();
        faults();
        told();
        field();
        edge();
        plant();
        graze();
        gate();
        year();
        years();
        drift();
        undo();
        slips();
        slipsOfTheFewest();
        decides();
        tallIn();
        walk();
        turns();
        birds();
        root();
        plantedAgo();
        lookAt();
        write();
        tear();
        judge();
        seed();
        keepAndGoBack();
        CHECK.end();
    }

    private static void newObject() {
        HedgeWar x = new HedgeWar();
        for (int what = 0; what <= 12; what++) {
            due("1: told(" + what + ")", x.told(what), 0);
        }
        due("1: fault", x.fault(), NONE);
        due("1: field", x.field(0, 0), UNKNOWN);
        due("1: edge", x.edge(0, 0), UNKNOWN);
        due("1: plant", x.plant(0, 0), UNKNOWN);
        due("1: year", x.year(1), NOT);
        due("1: drift", x.drift(1), NOT);
        due("1: undo", x.undo(), NOT);
        due("1: turns", x.turns(0, 1), NOT);
        due("1: walk", x.walk(0, 0), UNKNOWN);
        due("1: plantedAgo", x.plantedAgo(), (1 << 21) - 1);
        due("1: lookAt", x.lookAt(), NONE);
        due("1: tear", x.tear(), 0);
        due("1: goBack", x.goBack(0), NOT);
        due("1: keep", x.keep(0), 1);
        due("1: goBack kept", x.goBack(0), 1);
        due("1: seed", x.seed(0), 0);
    }

    private static void feed() {
        HedgeWar x = new HedgeWar();
        due("2: least", x.feed(0), 1);
        due("2: most", x.feed(255), 2);
        due("2: -1", x.feed(-1), OUTSIDE);
        due("2: 256", x.feed(256), OUTSIDE);
        due("2: letters", x.told(4), 2);
        for (int k = 3; k <= 240; k++) {
            due("2: feed", x.feed(' '), k);
        }
        due("2: full", x.feed(' '), FULL);
        due("2: outside first", x.feed(256), OUTSIDE);
        due("2: letters", x.told(4), 240);
        due("2: a fault", x.parish(), -11);
        due("2: again", x.feed(' '), 1);
    }

    private static void parish() {
        HedgeWar x = new HedgeWar();
        due("3: empty", x.parish(), 0);
        due("3: least", Check.tell(x, "g2 2 0;"), 4);
        due("3: most", Check.tell(x, "g5 5 9;"), 25);
        due("3: edges", x.told(3), 40);
        due("3: text", x.told(4), 0);
        due("3: blanks", Check.tell(x, " g 003 002 05 ;  s 5  1 ; e0;p 1;h0 1 099 ; "), 6);
        due("3: W", x.told(0), 3);
        due("3: H", x.told(1), 2);
        due("3: soil", x.field(4, 0), 5);
        due("3: soil told", x.field(5, 0), 1);
        due("3: estate", x.field(0, 1), 1);
        due("3: path", x.edge(1, 6), 1);
        due("3: hedge", x.edge(0, 3), 99);
        due("3: soil twice", Check.tell(x, "g2 2 1;s0 2;s0 3;"), 4);
        due("3: the later soil", x.field(0, 0), 3);
        due("3: least soil", Check.tell(x, "g2 2 1;s0 0;p0;e1;h1 1 1;"), 4);
        due("3: soil 0", x.field(0, 0), 0);
        due("3: another one", Check.tell(x, "g2 3 1;"), 6);
        due("3: its paths", x.edge(0, 6), 0);
        due("3: its hedges", x.edge(1, 2), NONE);
        due("3: its estates", x.told(8), 0);
        x.plant(1, 0);
        due("3: estate of a slip", x.edge(1, 2), 0);
        due("3: only blanks", Check.tell(x, "   "), 0);
        for (int what = 0; what <= 12; what++) {
            due("3: no fields, told(" + what + ")", x.told(what), 0);
        }
        due("3: no edges", x.edge(0, 0), UNKNOWN);
        Check.tell(x, SMALL);
        due("3: empty again", x.parish(), 0);
        due("3: W", x.told(0), 0);
        due("3: no year", x.year(1), NOT);
        String longest = SMALL + " ".repeat(236 - SMALL.length());
        HedgeWar full = new HedgeWar();
        due("3: 240 letters", Check.tell(full, longest + "s0 9"), -11);
        due("4: at the end", full.fault(), 240);
        due("3: 240 letters, good", Check.tell(full, longest + "e 0;"), 9);
        due("3: estate", full.told(8), 1);
    }

    private static void parishForgets() {
        HedgeWar x = Check.told(RINGED);
        x.seed(77);
        x.gate(2, true);
        x.year(2);
        x.root(0, 4);
        x.write(0, 0);
        x.keep(0);
        x.keep(1);
        x.plant(0, 0);
        due("3: fault", Check.tell(x, "g2 2 0;x"), -11);
        due("3: text gone", x.told(4), 0);
        due("3: fields stay", x.told(2), 9);
        due("3: years stay", x.told(5), 2);
        due("3: hedges stay", x.told(6), 5);
        due("3: gates stay", x.edge(2, 5), 1);
        due("3: roots stay", x.told(10), 1);
        due("3: book stays", x.told(11), 1);
        due("3: undo stays", x.told(12), 1);
        due("3: image stays", x.goBack(1), 1);
        x.plant(0, 0);
        due("3: anew", Check.tell(x, RINGED), 9);
        due("3: years", x.told(5), 0);
        due("3: hedges", x.told(6), 4);
        due("3: gates", x.edge(2, 5), 0);
        due("3: ages", x.edge(2, 3), 3);
        due("3: owners", x.told(8), 0);
        due("3: roots", x.told(10), 0);
        due("3: book", x.told(11), 0);
        due("3: undo", x.undo(), NOT);
        due("3: image 0", x.goBack(0), NOT);
        due("3: image 1", x.goBack(1), NOT);
        due("3: seed", x.seed(0), 77);
    }

    private static void faults() {
        fault("x", 1, 0);
        fault("G2 2 0;", 1, 0);
        fault("  s0 0;", 1, 2);
        fault("7", 1, 0);
        fault(";", 1, 0);
        fault("g", 1, 1);
        fault("g2 2", 1, 4);
        fault("g2 2 0", 1, 6);
        fault("g2 2 0  ", 1, 8);
        fault("g2 2 0 0;", 1, 7);
        fault("g2 2;", 1, 4);
        fault("g2 2 0g", 1, 6);
        fault("g2 g", 1, 3);
        fault("g2 2 0;;", 1, 7);
        fault("g2 2 0;s0,1;", 1, 9);
        fault("g2 2 0;z", 1, 7);
        fault("g2 2 0;\u00e9", 1, 7);
        fault("g2 2 0;\t", 1, 7);
        fault("g2 2 0;e;", 1, 8);
        fault("g22 2 0;", 2, 1);
        fault("g1 2 0;", 2, 1);
        fault("g6 2 0;", 2, 1);
        fault("g2 1 0;", 2, 3);
        fault("g2 6 0;", 2, 3);
        fault("g2 2 10;", 2, 5);
        fault("g0002 2 0;", 2, 1);
        fault("g99999999999999999999", 2, 1);
        fault("g2 2 0;s4 0;", 2, 8);
        fault("g2 2 0;s 0 10;", 2, 11);
        fault("g2 2 0;e4;", 2, 8);
        fault("g2 2 0;p4;", 2, 8);
        fault("g2 2 0;h4 0 1;", 2, 8);
        fault("g2 2 0;h0 2 1;", 2, 10);
        fault("g2 2 0;h0 0 0;", 2, 12);
        fault("g2 2 0;h0 0 100;", 2, 12);
        fault("g2 2 0;e0;e0000;", 2, 11);
        fault("g2 2 0;g", 3, 7);
        fault("g2 2 0; g2 2 0;", 3, 8);
        fault("g2 2 0;e0;e0;", 4, 11);
        fault("g2 2 0;e0;e0x", 4, 11);
        fault("g2 2 0;p0;p0;", 4, 11);
        fault("g2 2 0;p0;h0 0 1;", 4, 11);
        fault("g2 2 0;p0;h 00 7 1;", 4, 12);
        fault("g2 2 0;h0 0 1;p0;", 4, 15);
        fault("g2 2 0;h0 0 1;h0 1 1;", 4, 15);
        HedgeWar x = new HedgeWar();
        for (String longer : new String[] {"g2 2 0;", "g2 2 00;", "g2 2 0 ;"}) {
            Check.tell(x, longer);
            due("3: shorter than '" + longer + "'", Check.tell(x, "g2 2 0"), -11);
            due("4: shorter than '" + longer + "'", x.fault(), 6);
        }
        Check.tell(x, "x");
        due("4: a fault", x.fault(), 0);
        Check.tell(x, SMALL);
        due("4: none", x.fault(), NONE);
    }

    private static void fault(String text, int number, int place) {
        HedgeWar x = new HedgeWar();
        due("3: parish of '" + text + "'", Check.tell(x, text), -10 - number);
        due("4: fault of '" + text + "'", x.fault(), place);
    }

    private static void told() {
        HedgeWar x = Check.told("g4 3 4;s5 9;e6;e5;p0;h3 1 2;h4 1 5;");
        int[] wants = {4, 3, 12, 17, 0, 0, 2, 10, 2, 6, 0, 0, 0};
        for (int what = 0; what < wants.length; what++) {
            due("5: told(" + what + ")", x.told(what), wants[what]);
        }
        x.feed('g');
        x.year(3);
        x.plant(1, 0);
        x.root(0, 0);
        x.root(0, 0);
        x.write(0, 0);
        due("5: letters", x.told(4), 1);
        due("5: years", x.told(5), 3);
        due("5: hedges", x.told(6), 3);
        due("5: roots", x.told(10), 2);
        due("5: book", x.told(11), 1);
        due("5: undo", x.told(12), 2);
        due("5: -1", x.told(-1), OUTSIDE);
        due("5: 13", x.told(13), OUTSIDE);
    }

    private static void field() {
        HedgeWar x = Check.told(RINGED + "s0 7;e8;");
        due("6: soil", x.field(0, 0), 7);
        due("6: soil of all", x.field(8, 0), 4);
        due("6: estate", x.field(8, 1), 1);
        due("6: estate 0", x.field(4, 1), 0);
        due("6: land", x.field(4, 2), 1);
        due("6: land round it", x.field(0, 2), 8);
        due("6: shut in", x.field(4, 3), 1);
        due("6: at the rim", x.field(0, 3), NONE);
        due("6: unknown", x.field(9, 0), UNKNOWN);
        due("6: unknown first", x.field(-1, 4), UNKNOWN);
        due("6: outside", x.field(0, 4), OUTSIDE);
        due("6: outside", x.field(0, -1), OUTSIDE);
        HedgeWar low = Check.told("g3 3 4;h2 1 3;h3 1 3;h7 1 3;h10 1 2;");
        due("6: a hedge not tall", low.field(4, 3), NONE);
        due("6: land over it", low.field(4, 2), 9);
        HedgeWar mixed = Check.told("g3 3 4;h2 0 3;h3 1 3;h7 1 3;h10 1 3;");
        due("6: by two", mixed.field(4, 3), NONE);
        due("6: land by two", mixed.field(4, 2), 1);
        HedgeWar zero = Check.told("g3 3 4;h2 0 3;h3 0 3;h7 0 3;h10 0 3;");
        due("6: by 0", zero.field(4, 3), 0);
        // In 4 columns, 4 rows fields 5, 6, 9, 10 are inside; the hedge between 5 and 6 is not round them.
        HedgeWar two = Check.told("g4 4 4;h3 1 9;h5 1 9;h13 1 9;h14 1 9;h21 1 9;h22 1 9;h8 1 9;h6 1 9;h4 0 9;");
        due("6: land of four", two.field(5, 2), 4);
        due("6: a hedge of 0 inside", two.field(5, 3), 1);
    }

    private static void edge() {
        HedgeWar x = Check.told("g3 3 4;s4 9;p0;h2 1 2;h3 0 1;h10 1 99;");
        due("7: lesser", x.edge(2, 0), 3);
        due("7: other", x.edge(2, 1), 4);
        due("7: lesser below", x.edge(6, 0), 0);
        due("7: other below", x.edge(6, 1), 3);
        due("7: last", x.edge(11, 1), 8);
        due("7: estate", x.edge(2, 2), 1);
        due("7: estate 0", x.edge(3, 2), 0);
        due("7: no hedge", x.edge(1, 2), NONE);
        due("7: age", x.edge(2, 3), 2);
        due("7: no age", x.edge(1, 3), NONE);
        due("7: height", x.edge(2, 4), 10);
        due("7: most", x.edge(10, 4), 99);
        due("7: no height", x.edge(1, 4), 0);
        due("7: no path", x.edge(1, 6), 0);
        due("7: path", x.edge(0, 6), 1);
        due("7: low", x.edge(2, 7), 0);
        due("7: shut", x.edge(10, 7), 1);
        x.gate(10, true);
        due("7: gate", x.edge(10, 5), 1);
        due("7: no gate", x.edge(2, 5), 0);
        due("7: open", x.edge(10, 7), 0);
        due("7: unknown", x.edge(12, 0), UNKNOWN);
        due("7: unknown first", x.edge(-1, 8), UNKNOWN);
        due("7: outside", x.edge(0, 8), OUTSIDE);
        due("7: outside", x.edge(0, -1), OUTSIDE);
        // 11 is not tall, 12 is: ages 6 of growth 2, 2 of growth 6.
        HedgeWar poor = Check.told("g2 2 0;h0 0 5;h1 0 6;");
        due("7: 10 high", poor.edge(0, 7), 0);
        due("7: 12 high", poor.edge(1, 7), 1);
    }

    private static void plant() {
        HedgeWar x = Check.told("g3 3 4;p0;h2 1 2;");
        due("8: plant", x.plant(1, 0), 2);
        due("8: plant", x.plant(3, 1), 3);
        due("8: age", x.edge(1, 3), 0);
        due("8: estate", x.edge(1, 2), 0);
        due("8: estate", x.edge(3, 2), 1);
        due("8: a path", x.plant(0, 0), NOT);
        due("8: a hedge", x.plant(2, 0), NOT);
        due("8: a slip", x.plant(1, 0), NOT);
        due("8: no edge", x.plant(12, 0), UNKNOWN);
        due("8: no edge", x.plant(-1, 0), UNKNOWN);
        due("8: no estate", x.plant(4, 2), UNKNOWN);
        due("8: no estate first", x.plant(0, -1), UNKNOWN);
        due("8: nothing done", x.told(12), 2);
        due("8: hedges", x.told(6), 3);
    }

    private static void graze() {
        HedgeWar x = Check.told(RINGED);
        x.gate(2, true);
        due("9: graze", x.graze(2), 3);
        due("9: gone", x.edge(2, 2), NONE);
        due("9: gate gone", x.edge(2, 5), 0);
        due("9: hedges", x.told(6), 3);
        due("9: again", x.graze(2), NOT);
        due("9: no edge", x.graze(12), UNKNOWN);
        due("9: no edge", x.graze(-1), UNKNOWN);
        due("9: done", x.told(12), 2);
        x.plant(2, 0);
        due("9: anew, of 0", x.edge(2, 2), 0);
        due("9: anew, no gate", x.edge(2, 5), 0);
    }

    private static void gate() {
        HedgeWar x = Check.told(RINGED + "p0;");
        due("10: not open", x.gate(2, false), 0);
        due("10: opened", x.gate(2, true), 0);
        due("10: land", x.field(4, 2), 9);
        due("10: still", x.gate(2, true), 1);
        due("10: not", x.gate(2, false), 1);
        due("10: land", x.field(4, 2), 1);
        due("10: no hedge", x.gate(1, true), NOT);
        due("10: a path", x.gate(0, true), NOT);
        due("10: no edge", x.gate(12, true), UNKNOWN);
        due("10: no edge", x.gate(-1, false), UNKNOWN);
        due("10: done", x.told(12), 4);
    }

    private static void year() {
        HedgeWar x = Check.told("g3 3 4;h2 1 1;h3 1 3;h7 1 3;h10 1 98;");
        due("11: one", x.year(1), 0);
        due("11: age", x.edge(2, 3), 2);
        due("11: most", x.edge(10, 3), 99);
        due("11: not yet", x.field(4, 1), 0);
        due("11: March", x.year(1), 1);
        due("11: goes over", x.field(4, 1), 1);
        due("11: most still", x.edge(10, 3), 99);
        x.graze(2);
        due("11: it stays", x.year(1), 1);
        due("11: years", x.told(5), 3);
        HedgeWar back = Check.told("g3 3 4;e4;h2 0 3;h3 0 3;h7 0 3;h10 0 2;");
        due("11: over to 0", back.year(1), 0);
        HedgeWar both = Check.told("g3 3 4;e4;h2 0 3;h3 1 3;h7 0 3;h10 0 3;");
        due("11: shut in by nobody", both.year(40), 1);
    }

    private static void years() {
        HedgeWar x = Check.told(SMALL);
        due("11: 0", x.year(0), OUTSIDE);
        due("11: 41", x.year(41), OUTSIDE);
        due("11: outside first", new HedgeWar().year(0), OUTSIDE);
        for (int k = 0; k < 225; k++) {
            x.year(40);
        }
        due("11: 9000", x.told(5), 9000);
        due("11: not above", x.year(1), 0);
        due("11: above", x.year(1), FULL);
        due("12: above", x.drift(1), FULL);
        due("11: outside first", x.year(41), OUTSIDE);
        due("12: outside first", x.drift(0), OUTSIDE);
        due("11: years", x.told(5), 9001);
        due("11: no more undone", x.told(12), 20);
    }

    private static void drift() {
        HedgeWar x = Check.told(SMALL);
        x.seed(1);
        long lot = 1;
        int hedges = 0;
        int[] estates = {NONE, NONE, NONE, NONE, NONE, NONE, NONE, NONE, NONE, NONE, NONE, NONE};
        int[] ages = new int[12];
        for (int k = 0; k < 10; k++) {
            lot = (lot * 1103515245L + 12345L) % (1L << 31);
            int e = (int) (lot / 65536 % 12);
            lot = (lot * 1103515245L + 12345L) % (1L << 31);
            if (estates[e] == NONE) {
                estates[e] = (int) (lot / 65536 % 2);
                ages[e] = 10 - k;
                hedges++;
            }
        }
        x.drift(10);
        due("12: years", x.told(5), 10);
        due("12: hedges", x.told(6), hedges);
        for (int e = 0; e < 12; e++) {
            due("12: estate", x.edge(e, 2), estates[e]);
            due("12: age", x.edge(e, 3), estates[e] == NONE ? NONE : ages[e]);
        }
        due("12: one is undone", x.told(12), 1);
        due("12: seed", x.seed(5), lot);
        due("12: 0", x.drift(0), OUTSIDE);
        due("12: 41", x.drift(41), OUTSIDE);
        due("12: outside first", new HedgeWar().drift(41), OUTSIDE);
        due("12: seed untouched", x.seed(5), 5);
        HedgeWar ringed = Check.told(RINGED);
        due("12: March", ringed.drift(1), 1);
        HedgeWar full = Check.told("g2 2 0;p0;p1;p2;p3;");
        due("12: nowhere", full.drift(40), 0);
        due("12: none planted", full.told(6), 0);
        due("12: draws all the same", full.seed(0) == 0 ? 1 : 0, 0);
    }

    private static void undo() {
        HedgeWar x = Check.told(RINGED);
        x.seed(9);
        x.gate(2, true);
        x.graze(3);
        x.plant(3, 0);
        x.year(3);
        x.drift(2);
        int lot = x.seed(0);
        x.seed(lot);
        due("13: drift", x.undo(), 4);
        due("13: years", x.told(5), 3);
        due("13: seed stays", x.seed(0), lot);
        due("13: year", x.undo(), 3);
        due("13: years", x.told(5), 0);
        due("13: ages", x.edge(3, 3), 0);
        due("13: plant", x.undo(), 2);
        due("13: no hedge", x.edge(3, 2), NONE);
        due("13: graze", x.undo(), 1);
        due("13: hedge", x.edge(3, 3), 3);
        due("13: gate", x.undo(), 0);
        due("13: no gate", x.edge(2, 5), 0);
        due("13: none", x.undo(), NOT);
        x.year(1);
        due("13: owned", x.told(8), 1);
        x.undo();
        due("13: not owned", x.told(8), 0);
        for (int k = 0; k < 25; k++) {
            x.year(1);
        }
        due("13: twenty", x.told(12), 20);
        for (int k = 19; k >= 0; k--) {
            due("13: back", x.undo(), k);
        }
        due("13: the oldest are lost", x.told(5), 5);
        due("13: none", x.undo(), NOT);
        x.plant(2, 0);
        x.gate(0, true);
        x.graze(0);
        x.year(0);
        x.drift(0);
        due("13: refused are not kept", x.told(12), 0);
    }

    private static void slips() {
        HedgeWar x = Check.told("g3 3 4;h2 1 1;h3 1 9;");
        due("14: two", x.slips(1, 4, 3, NONE), 2);
        due("14: first", x.slips(1, 4, 3, 0), 7);
        due("14: second", x.slips(1, 4, 3, 1), 10);
        due("14: third", x.slips(1, 4, 3, 2), NONE);
        due("14: before the first", x.slips(1, 4, 3, -2), NONE);
        due("14: too soon", x.slips(1, 4, 2, NONE), NONE);
        due("14: 0's do not count", x.slips(0, 4, 9, NONE), NONE);
        due("14: at the rim", x.slips(1, 0, 9, NONE), NONE);
        due("14: nothing changes", x.told(6), 2);
        x.gate(3, true);
        due("14: a gate", x.slips(1, 4, 9, NONE), NONE);
        HedgeWar ringed = Check.told(RINGED);
        due("14: none needed", ringed.slips(1, 4, 1, NONE), 0);
        due("14: none needed, which", ringed.slips(1, 4, 1, 0), NONE);
        HedgeWar path = Check.told("g3 3 4;p2;");
        due("14: a path", path.slips(0, 4, 20, NONE), NONE);
        due("14: no estate", x.slips(2, 4, 3, NONE), UNKNOWN);
        due("14: no field", x.slips(1, 9, 3, NONE), UNKNOWN);
        due("14: no field first", x.slips(1, -1, 0, NONE), UNKNOWN);
        due("14: 0 years", x.slips(1, 4, 0, NONE), OUTSIDE);
        due("14: 21 years", x.slips(1, 4, 21, NONE), OUTSIDE);
        due("14: 20 years", Check.told(SMALL).slips(1, 4, 20, NONE), 4);
    }

    private static void slipsOfTheFewest() {
        // 4 columns, 3 rows: 5 and 6 are inside. Round 5: 3, 4, 10, 14; round both: 3, 5, 10, 11, 14, 15.
        HedgeWar x = Check.told("g4 3 4;h3 1 9;h10 1 9;h14 1 9;");
        due("14: one", x.slips(1, 5, 3, NONE), 1);
        due("14: the nearest", x.slips(1, 5, 3, 0), 4);
        HedgeWar like = Check.told("g4 3 4;h3 1 9;h10 1 9;h14 1 9;h11 1 9;h15 1 9;");
        due("14: one of two", like.slips(1, 5, 3, NONE), 1);
        due("14: leaves the fewest fields", like.slips(1, 5, 3, 0), 4);
        due("14: from the other side", like.slips(1, 6, 3, 0), 5);
        HedgeWar path = Check.told("g4 3 4;p4;h3 1 9;h10 1 9;h14 1 9;");
        due("14: round both", path.slips(1, 5, 3, NONE), 3);
        due("14: rising", path.slips(1, 5, 3, 0), 5);
        due("14: rising", path.slips(1, 5, 3, 1), 11);
        due("14: rising", path.slips(1, 5, 3, 2), 15);
        HedgeWar all = Check.told("g5 5 4;p9;p10;p26;p27;p31;p32;p5;p6;p13;p14;");
        due("14: round nine", all.slips(0, 12, 3, NONE), 12);
    }

    private static void decides() {
        HedgeWar x = Check.told(RINGED + "h0 1 9;h11 0 1;");
        due("15: none open", x.decides(4, NONE), 0);
        x.gate(3, true);
        x.gate(0, true);
        x.gate(11, true);
        due("15: one", x.decides(4, NONE), 1);
        due("15: which", x.decides(4, 0), 3);
        due("15: no second", x.decides(4, 1), NONE);
        due("15: before the first", x.decides(4, -2), NONE);
        due("15: at the rim", x.decides(0, NONE), 0);
        x.gate(7, true);
        due("15: two open", x.decides(4, NONE), 0);
        due("15: nothing changes", x.edge(7, 5), 1);
        due("15: no field", x.decides(9, NONE), UNKNOWN);
        due("15: no field", x.decides(-1, 0), UNKNOWN);
        HedgeWar mixed = Check.told("g3 3 4;h2 0 3;h3 1 3;h7 1 3;h10 1 3;");
        mixed.gate(3, true);
        due("15: of two estates", mixed.decides(4, NONE), 0);
        HedgeWar low = Check.told("g3 3 4;h2 1 2;h3 1 3;h7 1 3;h10 1 3;");
        low.gate(2, true);
        due("15: not tall", low.decides(4, NONE), 0);
        low.year(1);
        due("15: tall", low.decides(4, 0), 2);
    }

    private static void tallIn() {
        HedgeWar x = Check.told("g3 3 0;s4 9;s5 9;s8 9;p0;h1 0 5;h2 1 99;");
        due("16: a path", x.tallIn(0), NONE);
        due("16: growth 2, age 5", x.tallIn(1), 1);
        due("16: it is", x.tallIn(2), 0);
        due("16: growth 6", x.tallIn(3), 2);
        due("16: growth 4", x.tallIn(10), 3);
        due("16: growth 2", x.tallIn(4), 6);
        x.gate(1, true);
        x.year(1);
        due("16: with a gate", x.tallIn(1), 0);
        due("16: no edge", x.tallIn(12), UNKNOWN);
        due("16: no edge", x.tallIn(-1), UNKNOWN);
        due("16: growth 5", Check.told("g2 2 6;").tallIn(0), 3);
        due("16: growth 3", Check.told("g2 2 3;").tallIn(0), 4);
    }

    private static void walk() {
        HedgeWar x = Check.told("g3 3 4;h0 0 3;h6 1 2;h7 1 3;");
        due("17: itself", x.walk(0, 0), 0);
        due("17: round the hedges", x.walk(0, 1), 5);
        due("17: and back", x.walk(1, 0), 5);
        due("17: over a low one", x.walk(0, 3), 1);
        x.year(1);
        due("17: shut off", x.walk(0, 8), NONE);
        due("17: from outside", x.walk(8, 0), NONE);
        x.gate(0, true);
        due("17: through a gate", x.walk(0, 1), 1);
        due("17: no field", x.walk(9, 0), UNKNOWN);
        due("17: no field", x.walk(0, 9), UNKNOWN);
        due("17: no field", x.walk(-1, 0), UNKNOWN);
        // 0 to 24 along a winding way with the fewest edges 24.
        HedgeWar snake = Check.told("g5 5 9;h20 0 9;h21 0 9;h22 0 9;h23 0 9;h26 0 9;h27 0 9;h28 0 9;h29 0 9;"
            + "h30 0 9;h31 0 9;h32 0 9;h33 0 9;h36 0 9;h37 0 9;h38 0 9;h39 0 9;");
        due("17: the longest way", snake.walk(0, 24), 24);
    }

    private static void turns() {
        HedgeWar x = Check.told("g3 3 4;h2 1 3;h3 1 3;h7 1 3;");
        due("18: 1 shuts it", x.turns(1, 3), 1);
        due("18: not in time", x.turns(1, 2), 0);
        due("18: 0 hinders", x.turns(0, 3), 9);
        HedgeWar other = Check.told("g3 3 4;e4;h2 0 3;h3 0 3;h7 0 3;");
        due("18: 1 hinders", other.turns(1, 3), 1);
        due("18: 0 shuts it", other.turns(0, 3), 9);
        // Two fields that 1 can shut: each estate gets its turn at one.
        HedgeWar two = Check.told("g5 3 4;h4 1 9;h5 1 9;h13 1 9;h6 1 9;h7 1 9;h15 1 9;");
        due("18: one each", two.turns(1, 3), 1);
        due("18: 0 first", two.turns(0, 3), 14);
        due("18: nothing changes", two.told(6), 6);
        due("18: no estate", x.turns(2, 0), UNKNOWN);
        due("18: no estate", x.turns(-1, 1), UNKNOWN);
        due("18: 0 years", x.turns(0, 0), OUTSIDE);
        due("18: 7 years", x.turns(0, 7), OUTSIDE);
        due("18: no estate first", new HedgeWar().turns(2, 7), UNKNOWN);
        due("18: outside first", new HedgeWar().turns(0, 7), OUTSIDE);
        due("18: no fields", new HedgeWar().turns(0, 6), NOT);
    }

    private static void birds() {
        HedgeWar x = new HedgeWar();
        due("19: no birds", x.birds(0, 37), 1000000000);
        due("19: none sows", x.birds(60, 0), 1000000000);
        due("19: all sow", x.birds(1, 100), 0);
        due("19: half", x.birds(3, 50), 125000000);
        long cut = 1000000000L;
        for (int k = 0; k < 60; k++) {
            cut = cut * 67 / 100;
        }
        due("19: cut each time", x.birds(60, 33), cut);
        due("19: -1 birds", x.birds(-1, 0), OUTSIDE);
        due("19: 61 birds", x.birds(61, 0), OUTSIDE);
        due("19: -1 of a hundred", x.birds(0, -1), OUTSIDE);
        due("19: 101 of a hundred", x.birds(0, 101), OUTSIDE);
    }

    private static void root() {
        HedgeWar x = Check.told(SMALL + "p0;");
        due("20: least", x.root(0, 0), 1);
        due("20: most", x.root(11, 99), 2);
        due("20: -1 high", x.root(0, -1), OUTSIDE);
        due("20: 100 high", x.root(0, 100), OUTSIDE);
        due("20: no edge first", x.root(12, 100), UNKNOWN);
        due("20: no edge", x.root(-1, 0), UNKNOWN);
        for (int k = 3; k <= 6; k++) {
            due("20: more", x.root(1, 4), k);
        }
        due("20: full", x.root(1, 4), FULL);
        due("20: outside first", x.root(1, 100), OUTSIDE);
        due("20: unknown first", x.root(12, 1), UNKNOWN);
        due("20: roots", x.told(10), 6);
        due("20: nothing to undo", x.told(12), 0);
    }

    private static void plantedAgo() {
        HedgeWar x = Check.told("g3 3 4;s0 9;s1 9;");
        due("21: all", x.plantedAgo(), (1 << 21) - 1);
        x.root(0, 99);
        due("21: 17 to 20 years", x.plantedAgo(), 15 << 17);
        x.root(2, 72);
        due("21: 18 years", x.plantedAgo(), 1 << 18);
        x.root(2, 73);
        due("21: never", x.plantedAgo(), 0);
        x.tear();
        x.root(2, 0);
        due("21: now", x.plantedAgo(), 1);
        x.tear();
        x.root(2, 80);
        due("21: 20 years", x.plantedAgo(), 1 << 20);
        x.tear();
        x.root(2, 84);
        due("21: 21 years are too many", x.plantedAgo(), 0);
    }

    private static void lookAt() {
        HedgeWar x = Check.told("g3 3 4;s0 9;s1 9;p1;h2 0 5;");
        due("22: a path, not edge 0", x.lookAt(), 1);
        x.root(0, 99);
        due("22: edge 0 does not part", x.lookAt(), 1);
        x.root(1, 99);
        due("22: edge 1 tells one year", x.lookAt(), NONE);
        due("22: which", x.plantedAgo(), 1 << 20);
        x.tear();
        x.root(2, 8);
        due("22: one year", x.lookAt(), NONE);
        HedgeWar rich = Check.told("g3 3 9;");
        due("22: parts in part", rich.lookAt(), 0);
        rich.root(3, 99);
        due("22: none parts them", rich.lookAt(), NONE);
        due("22: no fields", new HedgeWar().lookAt(), NONE);
    }

    private static void write() {
        HedgeWar x = Check.told(SMALL);
        due("23: no field", x.write(9, 0), UNKNOWN);
        due("23: no field", x.write(-1, 0), UNKNOWN);
        due("23: no estate", x.write(0, 2), UNKNOWN);
        due("23: no estate", x.write(0, -1), UNKNOWN);
        for (int k = 1; k <= 15; k++) {
            due("23: write", x.write(0, 0), k);
        }
        due("23: full", x.write(0, 0), FULL);
        due("23: unknown first", x.write(9, 0), UNKNOWN);
        due("23: entries", x.told(11), 15);
    }

    private static void tear() {
        HedgeWar x = Check.told(SMALL);
        x.root(0, 1);
        x.write(0, 1);
        x.write(1, 1);
        due("24: three", x.tear(), 3);
        due("24: roots", x.told(10), 0);
        due("24: book", x.told(11), 0);
        due("24: again", x.tear(), 0);
        due("24: none wrong", x.judge(), NONE);
        due("24: all fits", x.plantedAgo(), (1 << 21) - 1);
    }

    private static void judge() {
        HedgeWar x = Check.told(RINGED + "e8;");
        due("25: empty", x.judge(), NONE);
        x.write(8, 1);
        x.write(0, 0);
        due("25: none", x.judge(), NONE);
        x.write(4, 1);
        x.write(0, 1);
        due("25: the first", x.judge(), 2);
        x.year(1);
        due("25: as it is now", x.judge(), 3);
        x.tear();
        x.write(8, 0);
        due("25: the first of all", x.judge(), 0);
    }

    private static void seed() {
        HedgeWar x = new HedgeWar();
        due("26: at first", x.seed(2147483647), 0);
        due("26: the greatest", x.seed(5), 2147483647);
        due("26: below 0", x.seed(-1), OUTSIDE);
        due("26: least", x.seed(Integer.MIN_VALUE), OUTSIDE);
        due("26: stays", x.seed(0), 5);
    }

    private static void keepAndGoBack() {
        HedgeWar x = Check.told(RINGED);
        x.seed(3);
        x.gate(2, true);
        x.root(0, 4);
        due("27: keep", x.keep(0), 1);
        due("27: nothing to undo", x.undo(), NOT);
        x.gate(2, false);
        x.drift(5);
        x.write(0, 0);
        due("28: not kept", x.goBack(1), NOT);
        due("28: refused changes nothing", x.told(12), 2);
        due("27: keep 1", x.keep(1), 1);
        int lot = x.seed(8);
        x.graze(10);
        due("28: back", x.goBack(0), 1);
        due("28: nothing to undo", x.undo(), NOT);
        due("28: years", x.told(5), 0);
        due("28: hedges", x.told(6), 4);
        due("28: gate", x.edge(2, 5), 1);
        due("28: owned", x.told(8), 0);
        due("28: roots stay", x.told(10), 1);
        due("28: book stays", x.told(11), 1);
        due("28: seed", x.seed(0), 3);
        due("28: forth", x.goBack(1), 1);
        due("28: years", x.told(5), 5);
        due("28: owned", x.told(8), 1);
        due("28: seed", x.seed(0), lot);
        due("28: again", x.goBack(0), 1);
        x.plant(0, 0);
        due("27: over it", x.keep(0), 1);
        x.graze(0);
        x.goBack(0);
        due("28: the later one", x.told(6), 5);
        due("27: -1", x.keep(-1), UNKNOWN);
        due("27: 2", x.keep(2), UNKNOWN);
        due("28: -1", x.goBack(-1), UNKNOWN);
        due("28: 2", x.goBack(2), UNKNOWN);
    }
}
