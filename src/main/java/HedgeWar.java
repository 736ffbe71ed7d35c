/**
 * Two estates that fight by planting hedges. The document (DOC.md) tells what every call answers.
 *
 * A set of fields is an int, bit f for field f. A set of edges is a long, by places: the edge to the right of field f
 * is bit f, the edge below field f is bit 32 + f. Both halves of such a set lie over the fields' own bits, so a whole
 * land grows by one step with a few shifts.
 */
public final class HedgeWar {
    public static final int NONE = -1, UNKNOWN = -1000000001, OUTSIDE = -1000000002, NOT = -1000000003, FULL = -1000000004;

    private static final int MOST_LETTERS = 240, MOST_FIELDS = 25, MOST_EDGES = 40;
    private static final int LEAST_SIDE = 2, MOST_SIDE = 5, MOST_SOIL = 9;
    private static final int MOST_AGE = 99, MOST_HEIGHT = 99, TALL = 12;
    private static final int BELOW = 32;
    private static final int MOST_YEARS_A_CALL = 40, LAST_YEAR = 9000;
    private static final int MOST_UNDONE = 20, IMAGES = 2;
    private static final int MOST_SLIP_YEARS = 20, MOST_TURN_YEARS = 6;
    private static final int MOST_BIRDS = 60, HUNDRED = 100, BILLION = 1000000000;
    private static final int MOST_ROOTS = 6, MOST_YEARS_AGO = 20, MOST_ENTRIES = 15;
    private static final int LAST_TOLD = 12, LAST_OF_FIELD = 3, LAST_OF_EDGE = 7;

    private final Reader reader = new Reader();
    private final Ground ground = new Ground();
    private final Stand now = new Stand();
    private final Past past = new Past();
    private final Notes notes = new Notes();
    private final Image[] images = new Image[IMAGES];
    private final long[] shutThen = new long[MOST_TURN_YEARS + 1];
    private int faultPlace = NONE;
    private int lot = 0;

    public HedgeWar() {
        for (int i = 0; i < IMAGES; i++) {
            images[i] = new Image();
        }
    }

    // ---- the parish

    public int feed(int letter) {
        if (letter < 0 || letter > 255) {
            return OUTSIDE;
        }
        if (reader.letters >= MOST_LETTERS) {
            return FULL;
        }
        reader.text[reader.letters] = letter;
        reader.letters++;
        return reader.letters;
    }

    public int parish() {
        reader.readText();
        reader.letters = 0;
        faultPlace = reader.faultPlace;
        if (reader.faultNumber != 0) {
            return -10 - reader.faultNumber;
        }
        ground.copyFrom(reader.ground);
        now.copyFrom(reader.stand);
        past.forget();
        notes.forget();
        for (int i = 0; i < IMAGES; i++) {
            images[i].kept = false;
        }
        return ground.fields;
    }

    public int fault() {
        return faultPlace;
    }

    public int told(int what) {
        if (what < 0 || what > LAST_TOLD) {
            return OUTSIDE;
        }
        switch (what) {
            case 0: return ground.width;
            case 1: return ground.height;
            case 2: return ground.fields;
            case 3: return ground.edges;
            case 4: return reader.letters;
            case 5: return now.years;
            case 6: return Long.bitCount(now.hedges);
            case 7: return ground.fields - Integer.bitCount(now.ownedByOne);
            case 8: return Integer.bitCount(now.ownedByOne);
            case 9: return Long.bitCount(ground.edgesRound(now.ownedByOne));
            case 10: return notes.roots;
            case 11: return notes.entries;
            default: return past.count;
        }
    }

    public int field(int f, int what) {
        if (!ground.hasField(f)) {
            return UNKNOWN;
        }
        if (what < 0 || what > LAST_OF_FIELD) {
            return OUTSIDE;
        }
        switch (what) {
            case 0: return ground.soils[f];
            case 1: return now.ownerOf(f);
            case 2: return Integer.bitCount(ground.landFrom(1 << f, now.shutEdges(ground)));
            default: return ground.shutInBy(ground.landFrom(1 << f, now.shutEdges(ground)), now.ofOne);
        }
    }

    public int edge(int e, int what) {
        if (!ground.hasEdge(e)) {
            return UNKNOWN;
        }
        if (what < 0 || what > LAST_OF_EDGE) {
            return OUTSIDE;
        }
        long place = ground.places[e];
        boolean hedge = (now.hedges & place) != 0;
        switch (what) {
            case 0: return ground.lesser[e];
            case 1: return ground.greater[e];
            case 2: return hedge ? oneIf((now.ofOne & place) != 0) : NONE;
            case 3: return hedge ? now.ages[e] : NONE;
            case 4: return hedge ? ground.heightOn(e, now.ages[e]) : 0;
            case 5: return oneIf((now.gates & place) != 0);
            case 6: return oneIf((ground.paths & place) != 0);
            default: return oneIf((now.shutEdges(ground) & place) != 0);
        }
    }

    // ---- what is done

    public int plant(int e, int estate) {
        if (!ground.hasEdge(e) || !isEstate(estate)) {
            return UNKNOWN;
        }
        if (!mayPlant(ground.places[e])) {
            return NOT;
        }
        past.remember(now);
        now.setHedge(e, ground.places[e], estate, 0);
        return Long.bitCount(now.hedges);
    }

    public int graze(int e) {
        if (!ground.hasEdge(e)) {
            return UNKNOWN;
        }
        long place = ground.places[e];
        if ((now.hedges & place) == 0) {
            return NOT;
        }
        past.remember(now);
        now.removeHedge(place);
        return now.ages[e];
    }

    public int gate(int e, boolean is) {
        if (!ground.hasEdge(e)) {
            return UNKNOWN;
        }
        long place = ground.places[e];
        if ((now.hedges & place) == 0) {
            return NOT;
        }
        past.remember(now);
        int was = oneIf((now.gates & place) != 0);
        now.gates = is ? now.gates | place : now.gates & ~place;
        return was;
    }

    public int year(int n) {
        return passYears(n, false);
    }

    public int drift(int n) {
        return passYears(n, true);
    }

    public int undo() {
        if (past.count == 0) {
            return NOT;
        }
        past.recall(now);
        return past.count;
    }

    // ---- tried

    public int slips(int estate, int f, int n, int i) {
        if (!isEstate(estate) || !ground.hasField(f)) {
            return UNKNOWN;
        }
        if (n < 1 || n > MOST_SLIP_YEARS) {
            return OUTSIDE;
        }
        long own = estate == 1 ? now.ofOne : ~now.ofOne;
        long standing = now.tallHedges(ground, n) & ~now.gates & own;
        long slips = slipsTallIn(n);
        int land = cheapestLand(f, standing, slips);
        return land == 0 ? NONE : countOrPick(ground.edgesRound(land) & slips, i);
    }

    public int decides(int f, int i) {
        if (!ground.hasField(f)) {
            return UNKNOWN;
        }
        long tall = now.tallHedges(ground, 0);
        long shut = tall & ~now.gates;
        long open = tall & now.gates;
        long deciding = 0;
        for (int e = 0; e < ground.edges; e++) {
            long place = ground.places[e];
            if ((open & place) != 0 && ground.shutInBy(ground.landFrom(1 << f, shut | place), now.ofOne) != NONE) {
                deciding |= place;
            }
        }
        return countOrPick(deciding, i);
    }

    public int tallIn(int e) {
        if (!ground.hasEdge(e)) {
            return UNKNOWN;
        }
        long place = ground.places[e];
        if ((ground.paths & place) != 0) {
            return NONE;
        }
        int age = (now.hedges & place) != 0 ? now.ages[e] : 0;
        return Math.max(0, ground.ageWhenTall(e) - age);
    }

    public int walk(int f, int g) {
        if (!ground.hasField(f) || !ground.hasField(g)) {
            return UNKNOWN;
        }
        long shut = now.shutEdges(ground);
        int goal = 1 << g;
        int come = 1 << f;
        for (int crossed = 0; crossed < MOST_FIELDS; crossed++) {
            if ((come & goal) != 0) {
                return crossed;
            }
            come = ground.oneStepFrom(come, shut);
        }
        return NONE;
    }

    public int turns(int estate, int n) {
        if (!isEstate(estate)) {
            return UNKNOWN;
        }
        if (n < 1 || n > MOST_TURN_YEARS) {
            return OUTSIDE;
        }
        if (ground.fields == 0) {
            return NOT;
        }
        for (int y = 1; y <= n; y++) {
            shutThen[y] = now.tallHedges(ground, y) & ~now.gates;
        }
        // A slip that is not tall in time changes nothing, and holds no place where the other's could be tall.
        long slips = slipsTallIn(n);
        int best = acresAfterAnswer(estate, n, NONE, slips);
        for (int e = 0; e < ground.edges; e++) {
            if ((slips & ground.places[e]) != 0) {
                best = Math.max(best, acresAfterAnswer(estate, n, e, slips & ~ground.places[e]));
            }
        }
        return best;
    }

    public int birds(int n, int q) {
        if (n < 0 || n > MOST_BIRDS || q < 0 || q > HUNDRED) {
            return OUTSIDE;
        }
        long odds = BILLION;
        for (int k = 0; k < n; k++) {
            odds = odds * (HUNDRED - q) / HUNDRED;
        }
        return (int) odds;
    }

    // ---- roots

    public int root(int e, int height) {
        if (!ground.hasEdge(e)) {
            return UNKNOWN;
        }
        if (height < 0 || height > MOST_HEIGHT) {
            return OUTSIDE;
        }
        if (notes.roots >= MOST_ROOTS) {
            return FULL;
        }
        notes.rootEdges[notes.roots] = e;
        notes.rootHeights[notes.roots] = height;
        notes.roots++;
        return notes.roots;
    }

    public int plantedAgo() {
        return notes.yearsThatFit(ground);
    }

    public int lookAt() {
        int years = notes.yearsThatFit(ground);
        int least = Integer.bitCount(years);
        int best = NONE;
        for (int e = 0; e < ground.edges; e++) {
            int alike = ground.mostAlikeOn(e, years);
            if (alike < least) {
                least = alike;
                best = e;
            }
        }
        return best;
    }

    public int write(int f, int estate) {
        if (!ground.hasField(f) || !isEstate(estate)) {
            return UNKNOWN;
        }
        if (notes.entries >= MOST_ENTRIES) {
            return FULL;
        }
        notes.entryFields[notes.entries] = f;
        notes.entryEstates[notes.entries] = estate;
        notes.entries++;
        return notes.entries;
    }

    public int tear() {
        int had = notes.roots + notes.entries;
        notes.forget();
        return had;
    }

    public int judge() {
        for (int k = 0; k < notes.entries; k++) {
            if (now.ownerOf(notes.entryFields[k]) != notes.entryEstates[k]) {
                return k;
            }
        }
        return NONE;
    }

    // ---- draws, images

    public int seed(int v) {
        if (v < 0) {
            return OUTSIDE;
        }
        int was = lot;
        lot = v;
        return was;
    }

    public int keep(int i) {
        if (i < 0 || i >= IMAGES) {
            return UNKNOWN;
        }
        Image image = images[i];
        image.stand.copyFrom(now);
        image.lot = lot;
        image.kept = true;
        past.forget();
        return 1;
    }

    public int goBack(int i) {
        if (i < 0 || i >= IMAGES) {
            return UNKNOWN;
        }
        Image image = images[i];
        if (!image.kept) {
            return NOT;
        }
        now.copyFrom(image.stand);
        lot = image.lot;
        past.forget();
        return 1;
    }

    // ---- helpers

    private static boolean isEstate(int estate) {
        return estate == 0 || estate == 1;
    }

    private static int oneIf(boolean is) {
        return is ? 1 : 0;
    }

    private boolean mayPlant(long place) {
        return ((now.hedges | ground.paths) & place) == 0;
    }

    private int passYears(int n, boolean byDraws) {
        if (n < 1 || n > MOST_YEARS_A_CALL) {
            return OUTSIDE;
        }
        if (ground.fields == 0) {
            return NOT;
        }
        if (now.years > LAST_YEAR) {
            return FULL;
        }
        past.remember(now);
        for (int k = 0; k < n; k++) {
            if (byDraws) {
                sowByDraws();
            }
            passOneYear();
        }
        return Integer.bitCount(now.ownedByOne);
    }

    private void passOneYear() {
        now.growOlder(ground);
        now.ownedByOne = ground.ownedAfterMarch(now.shutEdges(ground), now.ofOne, now.ownedByOne);
        now.years++;
    }

    private void sowByDraws() {
        int e = draw(ground.edges);
        int estate = draw(2);
        if (mayPlant(ground.places[e])) {
            now.setHedge(e, ground.places[e], estate, 0);
        }
    }

    private int draw(int n) {
        lot = (int) ((lot * 1103515245L + 12345L) & 0x7fffffffL);
        return n > 0 ? lot / 65536 % n : 0;
    }

    /** The edges on which a slip may be planted now and is tall in n years. */
    private long slipsTallIn(int n) {
        long slips = 0;
        for (int e = 0; e < ground.edges; e++) {
            if (mayPlant(ground.places[e]) && ground.ageWhenTall(e) <= n) {
                slips |= ground.places[e];
            }
        }
        return slips;
    }

    /** How many edges a set has, or which its i-th is by number. */
    private int countOrPick(long set, int i) {
        if (i == NONE) {
            return Long.bitCount(set);
        }
        int passed = 0;
        for (int e = 0; e < ground.edges; e++) {
            if ((set & ground.places[e]) != 0) {
                if (passed == i) {
                    return e;
                }
                passed++;
            }
        }
        return NONE;
    }

    /**
     * The land with a field f that the fewest slips cut off, of these the smallest; 0 if none can be. At most nine
     * fields are not at the rim, so all lands are tried. The smallest of the cheapest lands is a part of the others,
     * so as a number it comes first.
     */
    private int cheapestLand(int f, long standing, long slips) {
        int start = 1 << f;
        if ((ground.rim & start) != 0) {
            return 0;
        }
        int inner = ground.all & ~ground.rim & ~start;
        int lands = 1 << Integer.bitCount(inner);
        int best = 0;
        int fewest = MOST_EDGES + 1;
        int with = 0;
        for (int k = 0; k < lands; k++) {
            long needed = ground.edgesRound(start | with) & ~standing;
            int count = Long.bitCount(needed);
            if ((needed & ~slips) == 0 && count < fewest) {
                best = start | with;
                fewest = count;
            }
            // The next subset of inner, in rising order.
            with = (with - inner) & inner;
        }
        return best;
    }

    /** What an estate has n years on, if it plants on an edge (or none) and the other one answers as well as it can. */
    private int acresAfterAnswer(int estate, int n, int planted, long answers) {
        int worst = acresAfter(estate, n, planted, NONE);
        for (int e = 0; e < ground.edges; e++) {
            if ((answers & ground.places[e]) != 0) {
                worst = Math.min(worst, acresAfter(estate, n, planted, e));
            }
        }
        return worst;
    }

    /** What an estate has n years on, if it plants on one edge now and the other estate on another one. */
    private int acresAfter(int estate, int n, int planted, int answered) {
        long ownPlace = planted == NONE ? 0 : ground.places[planted];
        long otherPlace = answered == NONE ? 0 : ground.places[answered];
        int ownTall = planted == NONE ? 0 : ground.ageWhenTall(planted);
        int otherTall = answered == NONE ? 0 : ground.ageWhenTall(answered);
        long ofOne = now.ofOne | (estate == 1 ? ownPlace : otherPlace);
        int owned = now.ownedByOne;
        long before = 0;
        for (int y = 1; y <= n; y++) {
            long shut = shutThen[y] | (y >= ownTall ? ownPlace : 0) | (y >= otherTall ? otherPlace : 0);
            // A March that finds the hedges of the last one changes nothing.
            if (y == 1 || shut != before) {
                owned = ground.ownedAfterMarch(shut, ofOne, owned);
            }
            before = shut;
        }
        int ofEstateOne = Integer.bitCount(owned);
        return estate == 1 ? ofEstateOne : ground.fields - ofEstateOne;
    }

    /** What the text tells and no call changes: fields, soil, edges, footpaths. */
    private static final class Ground {
        int width, height, fields, edges;
        int all, rim, withRight, withBelow;
        long paths;
        final int[] soils = new int[MOST_FIELDS];
        final int[] lesser = new int[MOST_EDGES];
        final int[] greater = new int[MOST_EDGES];
        final long[] places = new long[MOST_EDGES];

        void clear() {
            width = 0;
            height = 0;
            fields = 0;
            edges = 0;
            all = 0;
            rim = 0;
            withRight = 0;
            withBelow = 0;
            paths = 0;
        }

        void copyFrom(Ground from) {
            width = from.width;
            height = from.height;
            fields = from.fields;
            edges = from.edges;
            all = from.all;
            rim = from.rim;
            withRight = from.withRight;
            withBelow = from.withBelow;
            paths = from.paths;
            System.arraycopy(from.soils, 0, soils, 0, MOST_FIELDS);
            System.arraycopy(from.lesser, 0, lesser, 0, MOST_EDGES);
            System.arraycopy(from.greater, 0, greater, 0, MOST_EDGES);
            System.arraycopy(from.places, 0, places, 0, MOST_EDGES);
        }

        void layOut(int columns, int rows, int soil) {
            clear();
            width = columns;
            height = rows;
            fields = columns * rows;
            for (int f = 0; f < fields && f < MOST_FIELDS; f++) {
                soils[f] = soil;
                all |= 1 << f;
            }
            for (int y = 0; y < rows; y++) {
                for (int x = 0; x < columns; x++) {
                    layField(x, y);
                }
            }
            for (int f = 0; f < fields; f++) {
                if ((withRight & (1 << f)) != 0) {
                    addEdge(f, f + 1, 1L << f);
                }
            }
            for (int f = 0; f < fields; f++) {
                if ((withBelow & (1 << f)) != 0) {
                    addEdge(f, f + columns, 1L << (BELOW + f));
                }
            }
        }

        private void layField(int x, int y) {
            int bit = 1 << (y * width + x);
            if (x == 0 || y == 0 || x == width - 1 || y == height - 1) {
                rim |= bit;
            }
            if (x < width - 1) {
                withRight |= bit;
            }
            if (y < height - 1) {
                withBelow |= bit;
            }
        }

        private void addEdge(int from, int to, long place) {
            if (edges < MOST_EDGES) {
                lesser[edges] = from;
                greater[edges] = to;
                places[edges] = place;
                edges++;
            }
        }

        boolean hasField(int f) {
            return f >= 0 && f < fields;
        }

        boolean hasEdge(int e) {
            return e >= 0 && e < edges;
        }

        int growthOn(int e) {
            return 2 + (soils[lesser[e]] + soils[greater[e]]) / 4;
        }

        int heightOn(int e, int age) {
            return Math.min(MOST_HEIGHT, age * growthOn(e));
        }

        int ageWhenTall(int e) {
            int growth = growthOn(e);
            int age = 0;
            while (age < TALL && age * growth < TALL) {
                age++;
            }
            return age;
        }

        /** Of some years (a set), how many at most have one and the same height on an edge. */
        int mostAlikeOn(int e, int years) {
            int most = 0;
            for (int y = 0; y <= MOST_YEARS_AGO; y++) {
                int alike = 0;
                for (int z = 0; z <= MOST_YEARS_AGO; z++) {
                    if ((years & (1 << z)) != 0 && heightOn(e, y) == heightOn(e, z)) {
                        alike++;
                    }
                }
                most = Math.max(most, alike);
            }
            return most;
        }

        /** Some fields with all that are next to them over edges that are not shut. */
        int oneStepFrom(int some, long shut) {
            int right = withRight & ~(int) shut;
            int below = withBelow & ~(int) (shut >>> BELOW);
            int sideways = ((some & right) << 1) | ((some >>> 1) & right);
            int upAndDown = ((some & below) << width) | ((some >>> width) & below);
            return some | sideways | upAndDown;
        }

        int landFrom(int start, long shut) {
            int land = start;
            for (int step = 0; step < MOST_FIELDS; step++) {
                int wider = oneStepFrom(land, shut);
                if (wider == land) {
                    break;
                }
                land = wider;
            }
            return land;
        }

        /** The edges between fields of which just one is in a set. */
        long edgesRound(int set) {
            int right = (set ^ (set >>> 1)) & withRight;
            int below = (set ^ (set >>> width)) & withBelow;
            return ((long) below << BELOW) | right;
        }

        int shutInBy(int land, long ofOne) {
            if ((land & rim) != 0) {
                return NONE;
            }
            long round = edgesRound(land);
            if ((round & ofOne) == 0) {
                return 0;
            }
            return (round & ~ofOne) == 0 ? 1 : NONE;
        }

        /** The fields that are of estate 1 when all that is shut in has gone over. */
        int ownedAfterMarch(long shut, long ofOne, int ownedByOne) {
            int owned = ownedByOne;
            int left = all & ~landFrom(rim, shut);
            for (int k = 0; k < MOST_FIELDS && left != 0; k++) {
                int land = landFrom(left & -left, shut);
                int by = shutInBy(land, ofOne);
                if (by == 1) {
                    owned |= land;
                } else if (by == 0) {
                    owned &= ~land;
                }
                left &= ~land;
            }
            return owned;
        }
    }

    /** What is done to the parish: hedges, gates, whose the fields are, years. */
    private static final class Stand {
        long hedges, ofOne, gates;
        int ownedByOne, years;
        final int[] ages = new int[MOST_EDGES];

        void clear() {
            hedges = 0;
            ofOne = 0;
            gates = 0;
            ownedByOne = 0;
            years = 0;
        }

        void copyFrom(Stand from) {
            hedges = from.hedges;
            ofOne = from.ofOne;
            gates = from.gates;
            ownedByOne = from.ownedByOne;
            years = from.years;
            System.arraycopy(from.ages, 0, ages, 0, MOST_EDGES);
        }

        int ownerOf(int f) {
            return (ownedByOne >> f) & 1;
        }

        void setHedge(int e, long place, int estate, int age) {
            hedges |= place;
            ofOne = estate == 1 ? ofOne | place : ofOne & ~place;
            ages[e] = age;
        }

        void removeHedge(long place) {
            hedges &= ~place;
            ofOne &= ~place;
            gates &= ~place;
        }

        void growOlder(Ground ground) {
            for (int e = 0; e < ground.edges; e++) {
                if ((hedges & ground.places[e]) != 0) {
                    ages[e] = Math.min(MOST_AGE, ages[e] + 1);
                }
            }
        }

        /** The edges whose hedges are tall some years from now. */
        long tallHedges(Ground ground, int later) {
            long tall = 0;
            for (int e = 0; e < ground.edges; e++) {
                if ((hedges & ground.places[e]) != 0 && ground.heightOn(e, ages[e] + later) >= TALL) {
                    tall |= ground.places[e];
                }
            }
            return tall;
        }

        long shutEdges(Ground ground) {
            return tallHedges(ground, 0) & ~gates;
        }
    }

    /** What can be undone: a ring, so that the oldest is lost when it is full. */
    private static final class Past {
        final Stand[] stands = new Stand[MOST_UNDONE];
        int count, next;

        Past() {
            for (int k = 0; k < MOST_UNDONE; k++) {
                stands[k] = new Stand();
            }
        }

        void forget() {
            count = 0;
        }

        void remember(Stand stand) {
            stands[next].copyFrom(stand);
            next = (next + 1) % MOST_UNDONE;
            count = Math.min(MOST_UNDONE, count + 1);
        }

        void recall(Stand into) {
            next = (next + MOST_UNDONE - 1) % MOST_UNDONE;
            count--;
            into.copyFrom(stands[next]);
        }
    }

    private static final class Image {
        final Stand stand = new Stand();
        int lot;
        boolean kept;
    }

    /** The roots and the book. */
    private static final class Notes {
        int roots, entries;
        final int[] rootEdges = new int[MOST_ROOTS];
        final int[] rootHeights = new int[MOST_ROOTS];
        final int[] entryFields = new int[MOST_ENTRIES];
        final int[] entryEstates = new int[MOST_ENTRIES];

        void forget() {
            roots = 0;
            entries = 0;
        }

        /** The years ago (a set) by which all roots are as high as they were seen. */
        int yearsThatFit(Ground ground) {
            int years = 0;
            for (int y = 0; y <= MOST_YEARS_AGO; y++) {
                if (fits(ground, y)) {
                    years |= 1 << y;
                }
            }
            return years;
        }

        private boolean fits(Ground ground, int years) {
            for (int k = 0; k < roots; k++) {
                if (ground.heightOn(rootEdges[k], years) != rootHeights[k]) {
                    return false;
                }
            }
            return true;
        }
    }

    /** Reads the text into a ground and a stand of its own, up to the first fault. */
    private static final class Reader {
        static final int CANNOT_STAND = 1, OUT_OF_BOUNDS = 2, AGAIN = 3, TAKEN = 4;
        static final int MOST_FIGURES = 3, MOST_ESTATE = 1;

        final int[] text = new int[MOST_LETTERS];
        final Ground ground = new Ground();
        final Stand stand = new Stand();
        int letters, at, numberPlace;
        int faultNumber, faultPlace;

        void readText() {
            ground.clear();
            stand.clear();
            at = 0;
            faultNumber = 0;
            faultPlace = NONE;
            skipBlanks();
            for (int clause = 0; clause < MOST_LETTERS && at < letters && faultNumber == 0; clause++) {
                readClause();
                skipBlanks();
            }
        }

        private void readClause() {
            int place = at;
            int word = text[at];
            at++;
            if (ground.fields == 0 && word != 'g') {
                fail(CANNOT_STAND, place);
                return;
            }
            switch (word) {
                case 'g':
                    readGround(place);
                    break;
                case 's':
                    readSoil();
                    break;
                case 'e':
                    readOwned();
                    break;
                case 'p':
                    readPath();
                    break;
                case 'h':
                    readHedge();
                    break;
                default:
                    fail(CANNOT_STAND, place);
            }
            readEnd();
        }

        private void readGround(int place) {
            if (ground.fields != 0) {
                fail(AGAIN, place);
            }
            int columns = readNumber(LEAST_SIDE, MOST_SIDE);
            int rows = readNumber(LEAST_SIDE, MOST_SIDE);
            int soil = readNumber(0, MOST_SOIL);
            if (faultNumber == 0) {
                ground.layOut(columns, rows, soil);
            }
        }

        private void readSoil() {
            int f = readNumber(0, ground.fields - 1);
            int soil = readNumber(0, MOST_SOIL);
            if (faultNumber == 0) {
                ground.soils[f] = soil;
            }
        }

        private void readOwned() {
            int f = readNumber(0, ground.fields - 1);
            if (faultNumber == 0 && stand.ownerOf(f) == 1) {
                fail(TAKEN, numberPlace);
            }
            if (faultNumber == 0) {
                stand.ownedByOne |= 1 << f;
            }
        }

        private void readPath() {
            int e = readFreeEdge();
            if (faultNumber == 0) {
                ground.paths |= ground.places[e];
            }
        }

        private void readHedge() {
            int e = readFreeEdge();
            int estate = readNumber(0, MOST_ESTATE);
            int age = readNumber(1, MOST_AGE);
            if (faultNumber == 0) {
                stand.setHedge(e, ground.places[e], estate, age);
            }
        }

        private int readFreeEdge() {
            int e = readNumber(0, ground.edges - 1);
            if (faultNumber == 0 && ((ground.paths | stand.hedges) & ground.places[e]) != 0) {
                fail(TAKEN, numberPlace);
            }
            return e;
        }

        /** The number that comes next; what it answers counts only as long as there is no fault. */
        private int readNumber(int least, int most) {
            if (faultNumber != 0) {
                return least;
            }
            skipBlanks();
            numberPlace = at;
            int number = 0;
            while (at < letters && isFigure(text[at])) {
                number = Math.min(1000, number * 10 + text[at] - '0');
                at++;
            }
            if (at == numberPlace) {
                fail(CANNOT_STAND, at);
            } else if (at - numberPlace > MOST_FIGURES || number < least || number > most) {
                fail(OUT_OF_BOUNDS, numberPlace);
            }
            return number;
        }

        private void readEnd() {
            skipBlanks();
            if (at < letters && text[at] == ';') {
                at++;
            } else {
                fail(CANNOT_STAND, at);
            }
        }

        private void skipBlanks() {
            while (at < letters && text[at] == ' ') {
                at++;
            }
        }

        private static boolean isFigure(int letter) {
            return letter >= '0' && letter <= '9';
        }

        /** Reading goes on to the end of the clause, so only the first fault is kept. */
        private void fail(int number, int place) {
            if (faultNumber == 0) {
                faultNumber = number;
                faultPlace = place;
            }
        }
    }
}
