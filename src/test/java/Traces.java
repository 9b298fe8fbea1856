import java.util.ArrayList;
import java.util.List;
import java.util.function.Function;
import java.util.function.ToIntFunction;

/** What was ahead leaves no trace: an object that has come to a VALLEY by a longer way answers as a new one does. */
public final class Traces extends Bench {
    private record Call(String name, ToIntFunction<MostCocks> does) { }

    private record Past(int promise, String name, Function<String, MostCocks> lived) { }

    /** Twelve COCKS, twelve TREES, worths. */
    private static final String FULL = "cock 5 5 9 99 0 7;cock 4 5 8 98 1 6;cock 6 5 7 97 2 5;cock 5 4 6 96 3 4;"
            + "cock 5 6 5 95 0 3;cock 4 4 4 94 1 2;cock 6 6 3 93 2 1;cock 4 6 2 92 3 7;cock 6 4 1 91 0 6;cock 3 5 9 90 1 5;"
            + "cock 7 5 9 90 2 4;cock 5 3 9 90 3 3;tree 5 4;tree 5 3;tree 5 2;tree 6 4;tree 7 3;tree 6 5;tree 7 5;tree 6 6;"
            + "tree 5 6;tree 4 6;tree 4 5;tree 4 4;worth 0 7 99;worth 1 0 98;worth 2 5 97;worth 3 3 96";
    private static final String[] VALLEYS = {
        "cock 5 5 0 0 0 0",
        "cock 5 5 2 7 1 4;cock 1 1 0 7 1 0;tree 5 4;worth 1 0 30",
        FIVE,
        "cock 5 5 1 3 0 1;cock 5 6 2 5 1 3;cock 5 7 3 8 2 5;cock 4 5 4 9 3 7;cock 6 5 5 1 0 2;cock 7 5 6 4 1 2;cock 8 5 0 7 2 6;"
            + "tree 5 5;tree 6 6;tree 4 4;worth 0 2 40;worth 2 6 60",
    };
    private static final String[] LAWS = {SLOW, "turn off", "turn hour-rust+at*lee if age>20 or owner=1;turn 1 if lee<2"};

    private static final int BATCH = 100;

    private static void tellLaws(MostCocks x) {
        for (int i = 0; i < LAWS.length; i++) due("LAW", law(x, LAWS[i]), i);
    }

    /** A full VALLEY comes, and all that can be changed or asked about it is. */
    private static void lives(MostCocks x) {
        due("full VALLEY", valley(x, FULL), 12);
        x.seed(991);
        x.lot();
        x.blow(1, 2, 1);
        x.morning();
        for (int cock = 0; cock < 12; cock++) {
            x.bend(cock, cock * 5 & 7);
            x.rusts(cock, 9 - cock % 3);
            x.fell(cock, cock % 3 != 1);
        }
        for (int way = 0; way < 4; way++) {
            x.cheapest(way, 3, 0, 0);
            x.answer(way, 3, 1, 5, 2, 1);
            x.swings(way, 11, 3, 6);
            x.bestPoint(way, 0, 99, 0);
            x.oiled(2, 3, 4, way, 0);
            x.years(2, 30, 5, way, 1, 2);
        }
        x.trueWind(2, 24, 2);
    }

    private static MostCocks inPlaceOfAFullOne(String valley) {
        MostCocks x = new MostCocks();
        tellLaws(x);
        lives(x);
        x.seed(0);
        valley(x, valley);
        return x;
    }

    private static MostCocks behindFaults(String valley) {
        MostCocks x = new MostCocks();
        due("FAULT of a LAW", law(x, "turn 3 if [off>1 and rust=2] or not age<5;turn 4 if") < NONE, true);
        tellLaws(x);
        valley(x, valley);
        due("FAULT of a VALLEY", valley(x, FULL + ";cock") < NONE, true);
        due("FAULT of a LAW", law(x, "turn 3*off+age if [off>1 and rust=2] or not age<5;turn x") < NONE, true);
        return x;
    }

    private static MostCocks goneBackTo(String valley) {
        MostCocks x = told(valley, LAWS);
        x.image(1);
        lives(x);
        x.back(1);
        return x;
    }

    private static MostCocks goneBackToASecondImage(String valley) {
        MostCocks x = new MostCocks();
        tellLaws(x);
        lives(x);
        x.image(3);
        x.seed(0);
        valley(x, valley);
        x.image(3);
        x.back(3);
        lives(x);
        x.image(0);
        x.back(3);
        return x;
    }

    private static MostCocks asked(String valley) {
        MostCocks x = told(valley, LAWS);
        List<Call> all = questions();
        for (int i = 0; i < all.size(); i += 7) all.get(i).does.applyAsInt(x);
        return x;
    }

    private static final List<Past> PASTS = List.of(
            new Past(4, "in place of a full one", Traces::inPlaceOfAFullOne),
            new Past(4, "behind FAULTS", Traces::behindFaults),
            new Past(33, "gone back to", Traces::goneBackTo),
            new Past(33, "gone back to a second IMAGE", Traces::goneBackToASecondImage),
            new Past(0, "asked much", Traces::asked));

    private static void add(List<Call> all, String name, ToIntFunction<MostCocks> does) {
        all.add(new Call(name, does));
    }

    /** Calls by which nothing happens. */
    private static List<Call> questions() {
        List<Call> all = new ArrayList<>();
        for (int i = 0; i < 4; i++) {
            int way = i;
            add(all, "vote " + way, x -> x.vote(way));
            for (int n : row(0, 1, 3)) add(all, "bought " + way + " " + n, x -> x.bought(way, n));
            for (int k = 0; k < 8; k++) {
                int p = k;
                add(all, "cheapest " + way + " " + p, x -> x.cheapest(way, p, 0, 0));
                add(all, "cheapest set " + way + " " + p, x -> x.cheapest(way, p, 1, 1));
                add(all, "answer " + way + " " + p, x -> x.answer(way, p, 0, p + 3 & 7, 1, p & 1));
                add(all, "swings " + way + " " + p, x -> x.swings(way, p, 2, 5));
                add(all, "bestPoint " + way + " " + p, x -> x.bestPoint(way, p / 2, 30, p & 1));
                add(all, "after " + way + " " + p, x -> x.after(2, p, 3, way, p & 1));
                add(all, "felled " + way + " " + p, x -> x.felled(0, p, 3, way));
                add(all, "oiled " + way + " " + p, x -> x.oiled(2, p, 3, way, p & 1));
                add(all, "years " + way + " " + p, x -> x.years(p % 3, 40, 2, way, p / 2, p % 3));
            }
        }
        for (int k = 0; k < 8; k++) {
            int p = k;
            add(all, "says " + p, x -> x.says(p));
            add(all, "lee " + p, x -> x.lee(0, p));
            add(all, "explained " + p, x -> x.explained(0, 3, p));
            add(all, "trueWind " + p, x -> x.trueWind(2, p, p % 3));
        }
        return all;
    }

    /** Calls that change something, with all that can be looked at behind each. */
    private static List<Call> changes() {
        List<Call> all = new ArrayList<>();
        for (int k = 0; k < 8; k++) {
            int p = k;
            for (int i = 0; i < 3; i++) {
                int law = i;
                add(all, "blow " + law + " " + p, x -> x.blow(law, p, 3) + 100 * x.morning());
            }
            add(all, "bend " + p, x -> x.bend(p, 5) + 100 * x.morning());
            add(all, "oil " + p, x -> x.oil(p));
            add(all, "fell " + p, x -> x.fell(p, true) ? 1 : 0);
            add(all, "stands again " + p, x -> x.fell(p, false) ? 1 : 0);
        }
        add(all, "lots", x -> x.lot() + 10 * x.lot() + 100 * x.lot());
        add(all, "seed", x -> x.seed(5));
        return all;
    }

    private static String behind(Call call, MostCocks x) {
        return call.does.applyAsInt(x) + ", " + state(x);
    }

    private static void hold(Past past, String valley) {
        promise(past.promise);
        same(past.name + ": all", state(past.lived.apply(valley)), state(told(valley, LAWS)));
        List<Call> questions = questions();
        MostCocks x = null;
        MostCocks fresh = null;
        for (int i = 0; i < questions.size(); i++) {
            if (i % BATCH == 0) {
                x = past.lived.apply(valley);
                fresh = told(valley, LAWS);
            }
            Call call = questions.get(i);
            due(past.name + ": " + call.name, call.does.applyAsInt(x), call.does.applyAsInt(fresh));
        }
        for (Call call : changes()) {
            same(past.name + ": " + call.name, behind(call, past.lived.apply(valley)), behind(call, told(valley, LAWS)));
        }
    }

    static void all() {
        for (Past past : PASTS) for (String valley : VALLEYS) hold(past, valley);
    }

    public static void main(String[] args) {
        all();
        end("Traces");
    }
}
