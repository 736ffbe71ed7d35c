import java.util.ArrayDeque;
import java.util.ArrayList;
import java.util.Arrays;
import java.util.Deque;
import java.util.HashMap;
import java.util.List;
import java.util.Map;
import java.util.TreeSet;

/** The document once more, slow and plain: arrays, walks field by field, flows for the slips, whole games for turns. */
final class PlainModel {
    static final int NONE = -1, UNKNOWN = -1000000001, OUTSIDE = -1000000002, NOT = -1000000003, FULL = -1000000004;

    /** All that can be undone or kept as an image. */
    static final class State {
        int[] estate = new int[0];
        int[] age = new int[0];
        boolean[] open = new boolean[0];
        int[] owner = new int[0];
        int years = 0;

        State copy() {
            State s = new State();
            s.estate = estate.clone();
            s.age = age.clone();
            s.open = open.clone();
            s.owner = owner.clone();
            s.years = years;
            return s;
        }
    }

    /** The first fault of a text. */
    private static final class Fault extends Exception {
        private static final long serialVersionUID = 1;
        final int number, place;

        Fault(int number, int place) {
            this.number = number;
            this.place = place;
        }
    }

    private final StringBuilder text = new StringBuilder();
    private int faultPlace = NONE;
    private int w = 0, h = 0;
    private int[] soil = new int[0];
    private int[][] ends = new int[0][];
    private boolean[] path = new boolean[0];
    private State s = new State();
    private final Deque<State> past = new ArrayDeque<>();
    private final State[] images = new State[2];
    private final long[] imageSeeds = new long[2];
    private long lot = 0;
    private final List<int[]> roots = new ArrayList<>();
    private final List<int[]> book = new ArrayList<>();

    // ---- the parish

    int feed(int letter) {
        if (letter < 0 || letter > 255) {
            return OUTSIDE;
        }
        if (text.length() >= 240) {
            return FULL;
        }
        text.append((char) letter);
        return text.length();
    }

    int parish() {
        String all = text.toString();
        text.setLength(0);
        PlainModel draft = new PlainModel();
        try {
            draft.readAll(all);
        } catch (Fault f) {
            faultPlace = f.place;
            return -10 - f.number;
        }
        faultPlace = NONE;
        w = draft.w;
        h = draft.h;
        soil = draft.soil;
        ends = draft.ends;
        path = draft.path;
        s = draft.s;
        past.clear();
        roots.clear();
        book.clear();
        Arrays.fill(images, null);
        return soil.length;
    }

    /** Tokens first (a number whole, any other letter but blanks alone), then clauses out of tokens. */
    private void readAll(String all) throws Fault {
        List<Integer> places = new ArrayList<>();
        List<String> tokens = new ArrayList<>();
        for (int k = 0; k < all.length(); ) {
            int end = k + 1;
            if (Character.isDigit(all.charAt(k))) {
                while (end < all.length() && Character.isDigit(all.charAt(end))) {
                    end++;
                }
            }
            if (all.charAt(k) != ' ') {
                places.add(k);
                tokens.add(all.substring(k, end));
            }
            k = end;
        }
        places.add(all.length());
        tokens.add("");
        int k = 0;
        while (k < tokens.size() - 1) {
            k = readClause(tokens, places, k);
        }
    }

    private int readClause(List<String> tokens, List<Integer> places, int k) throws Fault {
        String word = tokens.get(k);
        if (soil.length == 0 ? !word.equals("g") : !"gseph".contains(word) || word.length() != 1) {
            throw new Fault(1, places.get(k));
        }
        if (word.equals("g") && soil.length > 0) {
            throw new Fault(3, places.get(k));
        }
        int fields = soil.length - 1, edges = ends.length - 1;
        int[][] bounds = word.equals("g") ? new int[][] {{2, 5}, {2, 5}, {0, 9}}
            : word.equals("s") ? new int[][] {{0, fields}, {0, 9}}
            : word.equals("e") ? new int[][] {{0, fields}}
            : word.equals("p") ? new int[][] {{0, edges}}
            : new int[][] {{0, edges}, {0, 1}, {1, 99}};
        int[] numbers = new int[bounds.length];
        for (int b = 0; b < bounds.length; b++) {
            String token = tokens.get(k + 1 + b);
            int place = places.get(k + 1 + b);
            if (token.isEmpty() || !Character.isDigit(token.charAt(0))) {
                throw new Fault(1, place);
            }
            if (token.length() > 3) {
                throw new Fault(2, place);
            }
            numbers[b] = Integer.parseInt(token);
            if (numbers[b] < bounds[b][0] || numbers[b] > bounds[b][1]) {
                throw new Fault(2, place);
            }
            if (b == 0 && taken(word, numbers[0])) {
                throw new Fault(4, place);
            }
        }
        int end = k + 1 + bounds.length;
        if (!tokens.get(end).equals(";")) {
            throw new Fault(1, places.get(end));
        }
        take(word, numbers);
        return end + 1;
    }

    private boolean taken(String word, int number) {
        if (word.equals("e")) {
            return s.owner[number] == 1;
        }
        return (word.equals("p") || word.equals("h")) && (path[number] || s.estate[number] != NONE);
    }

    private void take(String word, int[] numbers) {
        if (word.equals("g")) {
            layOut(numbers[0], numbers[1], numbers[2]);
        } else if (word.equals("s")) {
            soil[numbers[0]] = numbers[1];
        } else if (word.equals("e")) {
            s.owner[numbers[0]] = 1;
        } else if (word.equals("p")) {
            path[numbers[0]] = true;
        } else {
            s.estate[numbers[0]] = numbers[1];
            s.age[numbers[0]] = numbers[2];
        }
    }

    private void layOut(int columns, int rows, int all) {
        w = columns;
        h = rows;
        soil = new int[w * h];
        Arrays.fill(soil, all);
        s.owner = new int[w * h];
        int count = h * (w - 1) + (h - 1) * w;
        ends = new int[count][];
        for (int e = 0; e < count; e++) {
            int below = e - h * (w - 1);
            int left = e / (w - 1) * w + e % (w - 1);
            ends[e] = below >= 0 ? new int[] {below, below + w} : new int[] {left, left + 1};
        }
        path = new boolean[count];
        s.estate = new int[count];
        Arrays.fill(s.estate, NONE);
        s.age = new int[count];
        s.open = new boolean[count];
    }

    int fault() {
        return faultPlace;
    }

    int told(int what) {
        int ofOne = Arrays.stream(s.owner).sum();
        int frontier = 0;
        for (int[] end : ends) {
            frontier += s.owner[end[0]] != s.owner[end[1]] ? 1 : 0;
        }
        int[] all = {w, h, soil.length, ends.length, text.length(), s.years, hedges(), soil.length - ofOne, ofOne,
            frontier, roots.size(), book.size(), past.size()};
        return what < 0 || what >= all.length ? OUTSIDE : all[what];
    }

    int field(int f, int what) {
        if (f < 0 || f >= soil.length) {
            return UNKNOWN;
        }
        switch (what) {
            case 0: return soil[f];
            case 1: return s.owner[f];
            case 2: return land(s, f).size();
            case 3: return shutInBy(s, f);
            default: return OUTSIDE;
        }
    }

    int edge(int e, int what) {
        if (e < 0 || e >= ends.length) {
            return UNKNOWN;
        }
        boolean hedge = s.estate[e] != NONE;
        switch (what) {
            case 0: return ends[e][0];
            case 1: return ends[e][1];
            case 2: return s.estate[e];
            case 3: return hedge ? s.age[e] : NONE;
            case 4: return hedge ? height(e, s.age[e]) : 0;
            case 5: return s.open[e] ? 1 : 0;
            case 6: return path[e] ? 1 : 0;
            case 7: return shut(s, e) ? 1 : 0;
            default: return OUTSIDE;
        }
    }

    // ---- height, land

    private int hedges() {
        int count = 0;
        for (int estate : s.estate) {
            count += estate != NONE ? 1 : 0;
        }
        return count;
    }

    private int height(int e, int age) {
        int growth = 2 + (soil[ends[e][0]] + soil[ends[e][1]]) / 4;
        return age * growth > 99 ? 99 : age * growth;
    }

    private boolean shut(State t, int e) {
        return t.estate[e] != NONE && height(e, t.age[e]) >= 12 && !t.open[e];
    }

    private boolean rim(int f) {
        return f / w == 0 || f / w == h - 1 || f % w == 0 || f % w == w - 1;
    }

    private int across(int e, int f) {
        return ends[e][0] == f ? ends[e][1] : ends[e][1] == f ? ends[e][0] : NONE;
    }

    private TreeSet<Integer> land(State t, int f) {
        TreeSet<Integer> land = new TreeSet<>();
        Deque<Integer> next = new ArrayDeque<>();
        land.add(f);
        next.add(f);
        while (!next.isEmpty()) {
            int from = next.remove();
            for (int e = 0; e < ends.length; e++) {
                int to = across(e, from);
                if (to != NONE && !shut(t, e) && land.add(to)) {
                    next.add(to);
                }
            }
        }
        return land;
    }

    private int shutInBy(State t, int f) {
        TreeSet<Integer> land = land(t, f);
        TreeSet<Integer> by = new TreeSet<>();
        for (int g : land) {
            if (rim(g)) {
                return NONE;
            }
        }
        for (int e = 0; e < ends.length; e++) {
            if (land.contains(ends[e][0]) != land.contains(ends[e][1])) {
                by.add(t.estate[e]);
            }
        }
        return by.size() == 1 ? by.first() : NONE;
    }

    private void oneYear(State t) {
        for (int e = 0; e < ends.length; e++) {
            if (t.estate[e] != NONE && t.age[e] < 99) {
                t.age[e]++;
            }
        }
        int[] after = t.owner.clone();
        for (int f = 0; f < soil.length; f++) {
            int by = shutInBy(t, f);
            after[f] = by != NONE ? by : after[f];
        }
        t.owner = after;
        t.years++;
    }

    // ---- what is done

    private void remember() {
        past.addLast(s.copy());
        if (past.size() > 20) {
            past.removeFirst();
        }
    }

    private boolean free(State t, int e) {
        return t.estate[e] == NONE && !path[e];
    }

    private void setSlip(State t, int e, int estate) {
        t.estate[e] = estate;
        t.age[e] = 0;
        t.open[e] = false;
    }

    int plant(int e, int estate) {
        if (e < 0 || e >= ends.length || estate < 0 || estate > 1) {
            return UNKNOWN;
        }
        if (!free(s, e)) {
            return NOT;
        }
        remember();
        setSlip(s, e, estate);
        return hedges();
    }

    int graze(int e) {
        if (e < 0 || e >= ends.length) {
            return UNKNOWN;
        }
        if (s.estate[e] == NONE) {
            return NOT;
        }
        remember();
        s.estate[e] = NONE;
        s.open[e] = false;
        return s.age[e];
    }

    int gate(int e, boolean is) {
        if (e < 0 || e >= ends.length) {
            return UNKNOWN;
        }
        if (s.estate[e] == NONE) {
            return NOT;
        }
        remember();
        int was = s.open[e] ? 1 : 0;
        s.open[e] = is;
        return was;
    }

    int year(int n) {
        return years(n, false);
    }

    int drift(int n) {
        return years(n, true);
    }

    private int years(int n, boolean byDraws) {
        if (n < 1 || n > 40) {
            return OUTSIDE;
        }
        if (soil.length == 0) {
            return NOT;
        }
        if (s.years > 9000) {
            return FULL;
        }
        remember();
        for (int k = 0; k < n; k++) {
            if (byDraws) {
                int e = draw(ends.length);
                int estate = draw(2);
                if (free(s, e)) {
                    setSlip(s, e, estate);
                }
            }
            oneYear(s);
        }
        return told(8);
    }

    private int draw(int n) {
        lot = (lot * 1103515245L + 12345L) % 2147483648L;
        return (int) (lot / 65536 % n);
    }

    int undo() {
        if (past.isEmpty()) {
            return NOT;
        }
        s = past.removeLast();
        return past.size();
    }

    // ---- tried

    private int countOrPick(List<Integer> list, int i) {
        return i == NONE ? list.size() : i >= 0 && i < list.size() ? list.get(i) : NONE;
    }

    int slips(int estate, int f, int n, int i) {
        if (estate < 0 || estate > 1 || f < 0 || f >= soil.length) {
            return UNKNOWN;
        }
        if (n < 1 || n > 20) {
            return OUTSIDE;
        }
        if (rim(f)) {
            return NONE;
        }
        // By flow: an edge lets through nothing behind a standing hedge, 1 where a slip can be, else no end of it.
        int[] room = new int[ends.length];
        for (int e = 0; e < ends.length; e++) {
            boolean stands = s.estate[e] == estate && height(e, Math.min(99, s.age[e] + n)) >= 12 && !s.open[e];
            boolean slip = free(s, e) && height(e, n) >= 12;
            room[e] = stands ? 0 : slip ? 1 : 1000;
        }
        int[] flow = new int[ends.length];
        for (int pushed = 0; pushed <= 50; pushed++) {
            Map<Integer, Integer> cameBy = reachWithRoom(f, room, flow);
            int goal = cameBy.keySet().stream().filter(this::rim).findFirst().orElse(NONE);
            if (goal == NONE) {
                List<Integer> cut = new ArrayList<>();
                for (int e = 0; e < ends.length; e++) {
                    if (room[e] > 0 && cameBy.containsKey(ends[e][0]) != cameBy.containsKey(ends[e][1])) {
                        cut.add(e);
                    }
                }
                return countOrPick(cut, i);
            }
            for (int at = goal; at != f; ) {
                int e = cameBy.get(at);
                at = across(e, at);
                flow[e] += at == ends[e][0] ? 1 : -1;
            }
        }
        return NONE;
    }

    /** The fields that more can flow to, each with the edge by which it is come to. */
    private Map<Integer, Integer> reachWithRoom(int f, int[] room, int[] flow) {
        Map<Integer, Integer> cameBy = new HashMap<>();
        Deque<Integer> next = new ArrayDeque<>();
        cameBy.put(f, NONE);
        next.add(f);
        while (!next.isEmpty()) {
            int from = next.remove();
            for (int e = 0; e < ends.length; e++) {
                int to = across(e, from);
                int used = from == ends[e][0] ? flow[e] : -flow[e];
                if (to != NONE && used < room[e] && !cameBy.containsKey(to)) {
                    cameBy.put(to, e);
                    next.add(to);
                }
            }
        }
        return cameBy;
    }

    int decides(int f, int i) {
        if (f < 0 || f >= soil.length) {
            return UNKNOWN;
        }
        List<Integer> list = new ArrayList<>();
        for (int e = 0; e < ends.length; e++) {
            if (s.open[e] && height(e, s.age[e]) >= 12) {
                State t = s.copy();
                t.open[e] = false;
                if (shutInBy(t, f) != NONE) {
                    list.add(e);
                }
            }
        }
        return countOrPick(list, i);
    }

    int tallIn(int e) {
        if (e < 0 || e >= ends.length) {
            return UNKNOWN;
        }
        if (path[e]) {
            return NONE;
        }
        int age = s.estate[e] == NONE ? 0 : s.age[e];
        int years = 0;
        while (height(e, age + years) < 12) {
            years++;
        }
        return years;
    }

    int walk(int f, int g) {
        if (f < 0 || f >= soil.length || g < 0 || g >= soil.length) {
            return UNKNOWN;
        }
        int[] far = new int[soil.length];
        Arrays.fill(far, 1000);
        far[f] = 0;
        for (int round = 0; round < soil.length; round++) {
            for (int e = 0; e < ends.length; e++) {
                if (!shut(s, e)) {
                    int a = ends[e][0], b = ends[e][1];
                    far[a] = Math.min(far[a], far[b] + 1);
                    far[b] = Math.min(far[b], far[a] + 1);
                }
            }
        }
        return far[g] >= 1000 ? NONE : far[g];
    }

    int turns(int estate, int n) {
        if (estate < 0 || estate > 1) {
            return UNKNOWN;
        }
        if (n < 1 || n > 6) {
            return OUTSIDE;
        }
        return soil.length == 0 ? NOT : game(s, estate, estate, n, 2);
    }

    private int game(State t, int estate, int mover, int n, int moves) {
        if (moves == 0) {
            State end = t.copy();
            for (int k = 0; k < n; k++) {
                oneYear(end);
            }
            int ofOne = Arrays.stream(end.owner).sum();
            return estate == 1 ? ofOne : soil.length - ofOne;
        }
        int best = game(t, estate, 1 - mover, n, moves - 1);
        for (int e = 0; e < ends.length; e++) {
            if (free(t, e)) {
                State next = t.copy();
                setSlip(next, e, mover);
                int value = game(next, estate, 1 - mover, n, moves - 1);
                best = mover == estate ? Math.max(best, value) : Math.min(best, value);
            }
        }
        return best;
    }

    int birds(int n, int q) {
        if (n < 0 || n > 60 || q < 0 || q > 100) {
            return OUTSIDE;
        }
        return n == 0 ? 1000000000 : (int) ((long) birds(n - 1, q) * (100 - q) / 100);
    }

    // ---- roots

    int root(int e, int height) {
        if (e < 0 || e >= ends.length) {
            return UNKNOWN;
        }
        if (height < 0 || height > 99) {
            return OUTSIDE;
        }
        if (roots.size() == 6) {
            return FULL;
        }
        roots.add(new int[] {e, height});
        return roots.size();
    }

    int plantedAgo() {
        int set = 0;
        for (int y = 0; y <= 20; y++) {
            int years = y;
            set += roots.stream().allMatch(r -> height(r[0], years) == r[1]) ? 1 << y : 0;
        }
        return set;
    }

    int lookAt() {
        int set = plantedAgo();
        int best = NONE;
        int least = Integer.bitCount(set);
        for (int e = 0; e < ends.length; e++) {
            Map<Integer, Integer> counts = new HashMap<>();
            for (int y = 0; y <= 20; y++) {
                if ((set & 1 << y) != 0) {
                    counts.merge(height(e, y), 1, Integer::sum);
                }
            }
            int most = counts.values().stream().mapToInt(Integer::intValue).max().orElse(0);
            if (most < least) {
                least = most;
                best = e;
            }
        }
        return best;
    }

    int write(int f, int estate) {
        if (f < 0 || f >= soil.length || estate < 0 || estate > 1) {
            return UNKNOWN;
        }
        if (book.size() == 15) {
            return FULL;
        }
        book.add(new int[] {f, estate});
        return book.size();
    }

    int tear() {
        int had = roots.size() + book.size();
        roots.clear();
        book.clear();
        return had;
    }

    int judge() {
        for (int k = 0; k < book.size(); k++) {
            if (s.owner[book.get(k)[0]] != book.get(k)[1]) {
                return k;
            }
        }
        return NONE;
    }

    // ---- draws, images

    int seed(int v) {
        if (v < 0) {
            return OUTSIDE;
        }
        int was = (int) lot;
        lot = v;
        return was;
    }

    int keep(int i) {
        if (i < 0 || i > 1) {
            return UNKNOWN;
        }
        images[i] = s.copy();
        imageSeeds[i] = lot;
        past.clear();
        return 1;
    }

    int goBack(int i) {
        if (i < 0 || i > 1) {
            return UNKNOWN;
        }
        if (images[i] == null) {
            return NOT;
        }
        s = images[i].copy();
        lot = imageSeeds[i];
        past.clear();
        return 1;
    }
}
