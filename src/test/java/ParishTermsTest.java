/** The Terms' part 1, THE PARISH, and promises 2 to 5: each sentence with a bound, on both sides of the bound. */
public final class ParishTermsTest {
    private static final Check CHECK = new Check();
    private static final int NONE = HedgeWar.NONE, UNKNOWN = HedgeWar.UNKNOWN, NOT = HedgeWar.NOT, FULL = HedgeWar.FULL;

    public static void main(String[] args) {
        letters();
        sizes();
        soilOfAll();
        estateOfAll();
        groundFirst();
        groundOnce();
        soils();
        estates();
        paths();
        hedges();
        hedgesOnce();
        edgeNumbers();
        figures();
        wordsOfOneLetter();
        blanks();
        otherSignsThanBlanks();
        blanksWithinNumbers();
        numbersSideBySide();
        firstFault();
        faultAtTheEnd();
        leastFault();
        faultOne();
        faultTwoAtItsFirst();
        faultFour();
        emptyText();
        anotherParish();
        emptyAfterwards();
        allElseWithAFault();
        latestFault();
        CHECK.end();
    }

    private static void due(String call, long got, long want) {
        CHECK.due(call, got, want);
    }

    private static void good(String text, int fields) {
        HedgeWar x = new HedgeWar();
        due("parish of '" + text + "'", Check.tell(x, text), fields);
        due("fault of '" + text + "'", x.fault(), NONE);
    }

    private static void fault(String text, int number, int place) {
        HedgeWar x = new HedgeWar();
        due("parish of '" + text + "'", Check.tell(x, text), -10 - number);
        due("fault of '" + text + "'", x.fault(), place);
    }

    private static String blanksUpTo(String text, int length) {
        return text + " ".repeat(length - text.length());
    }

    private static void letters() {
        CHECK.says("1: 240 letters at most; 2: how many it has, FULL (240)");
        HedgeWar x = new HedgeWar();
        String text = blanksUpTo("g2 2 0;", 237) + "e3;";
        for (int k = 0; k < 240; k++) {
            due("letter " + k, x.feed(text.charAt(k)), k + 1);
        }
        due("the 241st", x.feed('x'), FULL);
        due("letters", x.told(4), 240);
        due("parish of 240", x.parish(), 4);
        due("its last clause", x.field(3, 1), 1);
        due("room again", x.feed(0), 1);
        due("greatest letter", x.feed(255), 2);
        due("letters", x.told(4), 2);
    }

    private static void sizes() {
        CHECK.says("1: W columns, H rows, 2 .. 5 each");
        for (int w = 2; w <= 5; w++) {
            for (int h = 2; h <= 5; h++) {
                HedgeWar x = new HedgeWar();
                due("parish", Check.tell(x, "g" + w + " " + h + " 0;"), w * h);
                due("W", x.told(0), w);
                due("H", x.told(1), h);
                due("fields", x.told(2), w * h);
                due("edges", x.told(3), h * (w - 1) + (h - 1) * w);
                due("last field", x.field(w * h - 1, 0), 0);
                due("one behind it", x.field(w * h, 0), UNKNOWN);
            }
        }
        for (String side : new String[] {"0", "1", "6", "7", "10", "22", "999"}) {
            fault("g" + side + " 2 0;", 2, 1);
            fault("g2 " + side + " 0;", 2, 3);
        }
    }

    private static void soilOfAll() {
        CHECK.says("1: all of SOIL S, 0 .. 9, if nothing else is told");
        for (int soil = 0; soil <= 9; soil++) {
            HedgeWar x = Check.told("g2 3 " + soil + ";s2 " + (9 - soil) + ";");
            for (int f = 0; f < 6; f++) {
                due("soil of " + f, x.field(f, 0), f == 2 ? 9 - soil : soil);
            }
        }
        fault("g2 2 10;", 2, 5);
        fault("g2 2 100;", 2, 5);
    }

    private static void estateOfAll() {
        CHECK.says("1: of ESTATE 0");
        HedgeWar x = Check.told("g5 5 0;");
        due("acres of 0", x.told(7), 25);
        due("acres of 1", x.told(8), 0);
        for (int f = 0; f < 25; f++) {
            due("field " + f, x.field(f, 1), 0);
        }
    }

    private static void groundFirst() {
        CHECK.says("1: 'g' first; FAULT 1: another word first than 'g'");
        for (String word : new String[] {"s0 0;", "e0;", "p0;", "h0 0 1;"}) {
            fault(word, 1, 0);
            fault("  " + word, 1, 2);
            fault(word + "g2 2 0;", 1, 0);
        }
    }

    private static void groundOnce() {
        CHECK.says("1: once; FAULT 3: 'g' again (at it)");
        fault("g2 2 0;g2 2 0;", 3, 7);
        fault("g2 2 0;g", 3, 7);
        fault("g2 2 0;  g9", 3, 9);
        fault("g2 2 0;e0;gx", 3, 10);
    }

    private static void soils() {
        CHECK.says("1: 's' F S");
        HedgeWar x = Check.told("g5 5 4;s0 0;s24 9;s7 1;s7 8;");
        due("the first", x.field(0, 0), 0);
        due("the last", x.field(24, 0), 9);
        due("told twice", x.field(7, 0), 8);
        due("another one", x.field(1, 0), 4);
        fault("g5 5 4;s25 0;", 2, 8);
        fault("g2 2 4;s4 0;", 2, 8);
        fault("g2 2 4;s3 10;", 2, 10);
        due("behind a hedge", Check.told("g2 2 0;h0 0 1;s0 9;s1 9;").edge(0, 4), 6);
    }

    private static void estates() {
        CHECK.says("1: 'e' F");
        HedgeWar x = Check.told("g5 5 4;e0;e24;");
        due("the first", x.field(0, 1), 1);
        due("the last", x.field(24, 1), 1);
        due("acres", x.told(8), 2);
        due("all", Check.told("g2 2 0;e3;e2;e1;e0;").told(7), 0);
        fault("g5 5 4;e25;", 2, 8);
        fault("g2 5 4;e10;", 2, 8);
    }

    private static void paths() {
        CHECK.says("1: 'p' E");
        HedgeWar x = Check.told("g5 5 4;p0;p19;p20;p39;");
        int paths = 0;
        for (int e = 0; e < 40; e++) {
            paths += x.edge(e, 6);
        }
        due("paths", paths, 4);
        due("0", x.edge(0, 6), 1);
        due("19", x.edge(19, 6), 1);
        due("20", x.edge(20, 6), 1);
        due("39", x.edge(39, 6), 1);
        due("hedges", x.told(6), 0);
        fault("g5 5 4;p40;", 2, 8);
        fault("g2 3 4;p7;", 2, 8);
        good("g2 3 4;p6;", 6);
    }

    private static void hedges() {
        CHECK.says("1: 'h' E A N: A 0 or 1, N 1 .. 99");
        HedgeWar x = Check.told("g2 2 0;h0 0 1;h3 1 99;");
        due("hedges", x.told(6), 2);
        due("estate 0", x.edge(0, 2), 0);
        due("1 year", x.edge(0, 3), 1);
        due("estate 1", x.edge(3, 2), 1);
        due("99 years", x.edge(3, 3), 99);
        due("none", x.edge(1, 2), NONE);
        fault("g2 2 0;h4 0 1;", 2, 8);
        fault("g5 5 0;h40 0 1;", 2, 8);
        good("g5 5 0;h39 0 1;", 25);
        fault("g2 2 0;h0 2 1;", 2, 10);
        fault("g2 2 0;h0 1 0;", 2, 12);
        fault("g2 2 0;h0 1 100;", 2, 12);
    }

    private static void hedgesOnce() {
        CHECK.says("1: without a FOOTPATH; each EDGE once");
        fault("g2 2 0;h1 0 5;h1 0 5;", 4, 15);
        fault("g2 2 0;h1 0 5;h1 1 5;", 4, 15);
        fault("g2 2 0;p1;h1 1 5;", 4, 11);
        good("g2 2 0;p1;h0 1 5;h2 1 5;", 4);
    }

    private static void edgeNumbers() {
        CHECK.says("1: EDGES: first to the right, row by row; then below, behind all of these");
        for (int w = 2; w <= 5; w++) {
            for (int h = 2; h <= 5; h++) {
                edgeNumbers(w, h);
            }
        }
    }

    private static void edgeNumbers(int w, int h) {
        HedgeWar x = Check.told("g" + w + " " + h + " 0;");
        int e = 0;
        for (int y = 0; y < h; y++) {
            for (int left = 0; left < w - 1; left++, e++) {
                due(w + " by " + h + ": right " + e, x.edge(e, 0), y * w + left);
                due(w + " by " + h + ": right " + e, x.edge(e, 1), y * w + left + 1);
            }
        }
        for (int upper = 0; upper < (h - 1) * w; upper++, e++) {
            due(w + " by " + h + ": below " + e, x.edge(e, 0), upper);
            due(w + " by " + h + ": below " + e, x.edge(e, 1), upper + w);
        }
        due("one behind the last", x.edge(e, 0), UNKNOWN);
        due("edges", x.told(3), e);
    }

    private static void figures() {
        CHECK.says("1: NUMBERS have one to three figures; FAULT 2: four figures or more");
        good("g2 2 0;", 4);
        good("g02 02 00;", 4);
        good("g002 005 009;h012 001 099;", 10);
        fault("g0002 2 0;", 2, 1);
        fault("g2 0002 0;", 2, 3);
        fault("g2 2 0000;", 2, 5);
        fault("g2 2 0;e0000;", 2, 8);
        fault("g2 2 0;h0 0 0001;", 2, 12);
        fault("g2 2 0;h0 0 1000;", 2, 12);
        fault("g2 2 0;e00000000000000000000000000000000000000", 2, 8);
        fault("g4294967298 2 0;", 2, 1);
        fault("g18446744073709551618 2 0;", 2, 1);
    }

    private static void wordsOfOneLetter() {
        CHECK.says("1: a word is one letter");
        fault("gg2 2 0;", 1, 1);
        fault("g2 2 0;ee0;", 1, 8);
        fault("g2 2 0;ss0 0;", 1, 8);
        fault("g2 2 0;sp0;", 1, 8);
        fault("G2 2 0;", 1, 0);
        fault("g2 2 0;E0;", 1, 7);
    }

    private static void blanks() {
        CHECK.says("1: blanks (32) may stand anywhere");
        String[] parts = {"", "g", "2 ", "3 ", "4", ";", "s", "5 ", "9", ";", "h", "6 ", "1 ", "12", ";", ""};
        for (int k = 0; k < parts.length; k++) {
            StringBuilder text = new StringBuilder();
            for (int j = 0; j < parts.length; j++) {
                text.append(parts[j]).append(j == k ? "  " : "");
            }
            good(text.toString(), 6);
        }
        HedgeWar x = Check.told("  g  2  3  4  ;  s  5  9  ;  e  0  ;  p  1  ;  h  6  1  12  ;  ");
        due("soil", x.field(5, 0), 9);
        due("estate", x.field(0, 1), 1);
        due("path", x.edge(1, 6), 1);
        due("age", x.edge(6, 3), 12);
        good("g2 2 0;s0 1;e1;p2;h3 0 4;", 4);
    }

    private static void otherSignsThanBlanks() {
        CHECK.says("1: blanks (32), no other sign");
        for (int sign : new int[] {0, 9, 10, 13, 31, 33, 127, 160, 255}) {
            fault((char) sign + "g2 2 0;", 1, 0);
            fault("g" + (char) sign + "2 2 0;", 1, 1);
            fault("g2" + (char) sign + "2 0;", 1, 2);
            fault("g2 2 0" + (char) sign + ";", 1, 6);
            fault("g2 2 0;" + (char) sign, 1, 7);
        }
    }

    private static void blanksWithinNumbers() {
        CHECK.says("1: but within NUMBERS");
        fault("g5 5 0;e1 0;", 1, 10);
        fault("g5 5 0;h1 0 1 2;", 1, 14);
        fault("g2 2 0 0;", 1, 7);
    }

    private static void numbersSideBySide() {
        CHECK.says("1: two NUMBERS side by side need one");
        fault("g22 0;", 2, 1);
        fault("g2 20;", 2, 3);
        fault("g220;", 2, 1);
        fault("g2 2 0;s01;", 1, 10);
        fault("g2 2 0;h0 01;", 1, 12);
    }

    private static void firstFault() {
        CHECK.says("1: FAULTS, at the first letter that has one");
        fault("g2 2 0;e0;e0;x", 4, 11);
        fault("g2 2 0;x;e0;e0;", 1, 7);
        fault("g2 2 0;e9;g", 2, 8);
        fault("g2 2 0;g e9;", 3, 7);
        fault("g1 9 99", 2, 1);
        fault("g2 9 99", 2, 3);
        fault("g2 2 99", 2, 5);
        fault("g2 2 0;p0;h0 9 999", 4, 11);
        fault("g2 2 0;p0;h1 9 999", 2, 13);
        fault("g2 2 0;p0;h0", 4, 11);
    }

    private static void faultAtTheEnd() {
        CHECK.says("1: the end at the text's length");
        String text = "g2 2 0;h0 0 1;";
        for (int length = 1; length < text.length(); length++) {
            if (length == 7) {
                good(text.substring(0, length), 4);
            } else {
                fault(text.substring(0, length), 1, length);
            }
        }
        fault("g2 2 0  ", 1, 8);
        fault("g", 1, 1);
        fault(blanksUpTo("g", 240), 1, 240);
        fault(blanksUpTo("g2 2 0;", 238) + "e0", 1, 240);
        fault(blanksUpTo("g2 2 0;", 239) + "e", 1, 240);
    }

    private static void leastFault() {
        CHECK.says("1: of these the least");
        fault("g2 2 0;e0;e0000;", 2, 11);
        fault("g2 2 0;p0;p0000;", 2, 11);
        fault("g2 2 0;h0 0 1;h0000 0 1;", 2, 15);
        fault("g g2 2 0;", 1, 2);
        fault("0000", 1, 0);
        fault("g2 2 0 0000;", 1, 7);
        fault("g2 2 0;9999", 1, 7);
        fault("g2 2 0;e g2", 1, 9);
    }

    private static void faultOne() {
        CHECK.says("1: FAULT 1: it cannot stand there");
        good("g2 2 0;", 4);
        for (int letter = 0; letter < 256; letter++) {
            if ("gseph ".indexOf(letter) < 0) {
                fault("g2 2 0;" + (char) letter + "0 0 1;", 1, 7);
            }
        }
        fault(";", 1, 0);
        fault("2 2 0;", 1, 0);
        fault("g;", 1, 1);
        fault("g2;", 1, 2);
        fault("g2 2;", 1, 4);
        fault("g-2 2 0;", 1, 1);
        fault("g2 2 0;;", 1, 7);
        fault("g2 2 0;e0 1;", 1, 10);
        fault("g2 2 0;p0 1;", 1, 10);
        fault("g2 2 0;s0;", 1, 9);
        fault("g2 2 0;h0 1;", 1, 11);
        fault("g2 2 0e0;", 1, 6);
        fault("g2 2 0;e0p1;", 1, 9);
    }

    private static void faultTwoAtItsFirst() {
        CHECK.says("1: FAULT 2: a FIELD, an EDGE that there is not (at its first)");
        fault("g2 2 0;s  123 0;", 2, 10);
        fault("g2 2 0;e999;", 2, 8);
        fault("g2 2 0;p  04;", 2, 10);
        fault("g2 2 0;h 4", 2, 9);
        fault("g3 2 0;e6;", 2, 8);
        good("g3 2 0;e5;", 6);
        fault("g3 2 0;p7;", 2, 8);
        good("g3 2 0;p6;", 6);
    }

    private static void faultFour() {
        CHECK.says("1: FAULT 4 (at it)");
        fault("g2 2 0;p3;p 3;", 4, 12);
        fault("g2 2 0;h3 0 1;p 3;", 4, 16);
        fault("g2 2 0;h3 0 1;h 3 1 2;", 4, 16);
        fault("g2 2 0;p3;h 003 1 2;", 4, 12);
        fault("g2 2 0;e3;e 03;", 4, 12);
        good("g2 2 0;p3;e3;s3 1;s3 2;h2 0 1;e2;", 4);
    }

    private static void emptyText() {
        CHECK.says("1: An empty text: no FIELDS");
        HedgeWar x = Check.told("g3 3 4;e0;p0;h2 1 3;");
        x.year(1);
        x.root(0, 1);
        x.write(0, 0);
        x.keep(0);
        x.plant(4, 0);
        due("parish", x.parish(), 0);
        due("fault", x.fault(), NONE);
        for (int what = 0; what <= 12; what++) {
            due("told(" + what + ")", x.told(what), 0);
        }
        due("field", x.field(0, 0), UNKNOWN);
        due("edge", x.edge(0, 0), UNKNOWN);
        due("year", x.year(1), NOT);
        due("undo", x.undo(), NOT);
        due("goBack", x.goBack(0), NOT);
    }

    private static void anotherParish() {
        CHECK.says("3: THE TEXT becomes THE PARISH: nothing of the one before is left");
        String ring = Check.hedgesRound(3, 3, 0, 9, 4);
        String[] before = {"", "g2 2 9;", "g5 2 9;p2;p3;e4;", "g2 5 9;s4 9;e4;", "g5 5 9;h2 1 9;h3 1 9;h7 1 9;h10 1 9;e4;",
            "g3 3 9;h2 1 9;h3 1 9;h7 1 9;h10 1 9;e4;", "g4 4 9;p2;p3;p7;p10;"};
        for (String text : before) {
            HedgeWar x = Check.told(text);
            due("behind '" + text + "'", Check.tell(x, "g3 3 4;" + ring), 9);
            due("soil", x.field(4, 0), 4);
            due("estate", x.field(4, 1), 0);
            due("land", x.field(4, 2), 1);
            due("land round it", x.field(0, 2), 8);
            due("shut in", x.field(4, 3), 0);
            due("walk", x.walk(0, 8), 4);
            due("slips", x.slips(0, 4, 1, NONE), 0);
            due("acres", x.year(1), 0);
            due("edges", x.told(3), 12);
            HedgeWar gap = Check.told(text);
            due("behind '" + text + "', with a gap", Check.tell(gap, "g3 3 4;h2 1 9;h3 1 9;h7 1 9;"), 9);
            due("0's slip is 0's", gap.turns(0, 3), 9);
            due("1's slip is 1's", gap.turns(1, 3), 1);
            due("tall in", gap.tallIn(10), 3);
            due("no path", gap.edge(10, 6), 0);
        }
    }

    private static void emptyAfterwards() {
        CHECK.says("3: THE TEXT is empty then, with a FAULT, too");
        HedgeWar x = new HedgeWar();
        due("parish", Check.tell(x, "g2 2 0;"), 4);
        due("letters", x.told(4), 0);
        due("a fault", Check.tell(x, "g2 2 0;x"), -11);
        due("letters", x.told(4), 0);
        due("first letter", x.feed('g'), 1);
        Check.feedAll(x, "2 3 0;");
        due("parish", x.parish(), 6);
        due("empty", x.parish(), 0);
    }

    private static void allElseWithAFault() {
        CHECK.says("3: -10 less the number of its FAULT (all else is as it was)");
        String[] texts = {"g5 5 0;e0;x", "g5 5 0;e0;e99", "g5 5 0;e0;g", "g5 5 0;e0;p0;h1 1 9;s0 9;e0"};
        int[] places = {10, 11, 10, 26};
        for (int k = 0; k < texts.length; k++) {
            String text = texts[k];
            int place = places[k];
            new Twins(CHECK).unchanged(text, () -> busy(place), x -> Check.tell(x, text), -11 - k);
        }
    }

    /** A busy parish; the latest text was one bad letter at a place, so that a later fault there changes no answer. */
    private static HedgeWar busy(int place) {
        HedgeWar x = Check.told("g3 3 4;p0;h2 1 3;h3 1 3;h7 1 3;h10 1 3;e8;");
        x.seed(77);
        x.keep(0);
        x.plant(1, 0);
        x.gate(2, true);
        x.year(2);
        x.root(2, 12);
        x.write(8, 1);
        Check.tell(x, " ".repeat(place) + "x");
        return x;
    }

    private static void latestFault() {
        CHECK.says("4: The letter of the FAULT of the latest parish(); NONE");
        HedgeWar x = new HedgeWar();
        due("none yet", x.fault(), NONE);
        Check.tell(x, "g2 2 0;x");
        due("a fault", x.fault(), 7);
        Check.feedAll(x, "x");
        due("as long as no other is read", x.fault(), 7);
        x.parish();
        due("another one", x.fault(), 0);
        Check.tell(x, "g2 2 0;");
        due("none", x.fault(), NONE);
        Check.tell(x, "g2");
        x.parish();
        due("an empty text", x.fault(), NONE);
    }
}
