import java.util.ArrayList;
import java.util.List;
import java.util.function.Supplier;
import java.util.function.ToIntFunction;

/** Two objects made alike, of which one gets a call more: if it changes nothing, both answer alike ever after. */
final class Twins {
    private final Check check;

    Twins(Check check) {
        this.check = check;
    }

    /** A call has its answer, and changes nothing. */
    void unchanged(String call, Supplier<HedgeWar> made, ToIntFunction<HedgeWar> more, int want) {
        HedgeWar x = made.get();
        check.due(call, more.applyAsInt(x), want);
        List<String> got = everything(x);
        List<String> wanted = everything(made.get());
        for (int k = 0; k < Math.min(got.size(), wanted.size()); k++) {
            if (!got.get(k).equals(wanted.get(k))) {
                check.due(call + " changed " + wanted.get(k) + " to " + got.get(k), 1, 0);
                return;
            }
        }
        check.due(call + " changed how much there is", got.size(), wanted.size());
    }

    /** All that an object answers, what it can undo, its images and its text at last: it is used up by this. */
    private static List<String> everything(HedgeWar x) {
        List<String> all = new ArrayList<>();
        all.add("fault " + x.fault());
        stand(x, all);
        int fields = x.told(2);
        for (int f = 0; f < fields; f++) {
            all.add("land of " + f + " " + x.field(f, 2) + " shut in by " + x.field(f, 3));
        }
        all.add("plantedAgo " + x.plantedAgo());
        all.add("lookAt " + x.lookAt());
        all.add("judge " + x.judge());
        all.add("seed " + x.seed(5));
        for (int left = x.undo(), k = 0; left >= 0 && k < 21; left = x.undo(), k++) {
            all.add("undone, left " + left + brief(x));
        }
        for (int i = 0; i < 2; i++) {
            all.add("goBack " + x.goBack(i) + " seed " + x.seed(6) + brief(x));
        }
        all.add("feed " + x.feed(';') + " parish " + x.parish() + " fault " + x.fault());
        return all;
    }

    private static String brief(HedgeWar x) {
        return " years " + x.told(5) + " hedges " + x.told(6) + " acres " + x.told(8);
    }

    private static void stand(HedgeWar x, List<String> all) {
        int fields = x.told(2), edges = x.told(3);
        for (int what = 0; what <= 12; what++) {
            all.add("told(" + what + ") " + x.told(what));
        }
        for (int f = 0; f < fields; f++) {
            all.add("field " + f + " soil " + x.field(f, 0) + " of " + x.field(f, 1));
        }
        for (int e = 0; e < edges; e++) {
            all.add("edge " + e + " of " + x.edge(e, 2) + " age " + x.edge(e, 3) + " gate " + x.edge(e, 5)
                + " path " + x.edge(e, 6));
        }
    }
}
