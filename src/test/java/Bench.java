import java.util.ArrayList;
import java.util.List;
import java.util.function.ToIntFunction;

/** What the tests share: texts told to an object, and answers held against those that are due. */
abstract class Bench {
    static final int NONE = -1;

    /** Five COCKS of which two say 2, two 4 (one of them the oldest) and one 6. */
    static final String FIVE = "cock 5 5 0 10 0 2;cock 2 2 3 50 1 2;cock 7 7 1 30 0 4;cock 0 0 9 90 2 4;"
            + "cock 9 9 2 20 3 6;tree 5 4;tree 5 3;tree 8 6;worth 0 2 9;worth 1 4 50;worth 0 4 1;worth 0 6 20";
    static final String SLOW = "turn 1 if rust < 5 and lee = 0;turn 4 if rust = 9";

    /** Words of the document that a test stands for, and how many answers it looked at; promise 0: the Terms. */
    static final class Sentence {
        final int promise;
        final String words;
        int looks = 0;

        Sentence(int promise, String words) {
            this.promise = promise;
            this.words = words;
        }
    }

    static final List<Sentence> sentences = new ArrayList<>();
    static int wrong = 0;
    private static Sentence tested = new Sentence(0, "");

    /** From here on what is due is due by this promise. */
    static void promise(int number) {
        tested = new Sentence(number, "");
    }

    /** From here on what is due is due by these words of a promise. */
    static void sentence(int promise, String words) {
        tested = new Sentence(promise, words);
        sentences.add(tested);
    }

    /** From here on what is due is due by these words of the Terms. */
    static void term(String words) {
        sentence(0, words);
    }

    static void due(String call, int got, int want) {
        tested.looks++;
        if (got != want) {
            fails(call + " answered " + got + ", due is " + want);
        }
    }

    static void due(String call, boolean got, boolean want) {
        due(call, got ? 1 : 0, want ? 1 : 0);
    }

    static void same(String what, String got, String want) {
        tested.looks++;
        if (!got.equals(want)) {
            fails(what + ": it is " + got + ", due is " + want);
        }
    }

    static void fails(String what) {
        wrong++;
        String by = tested.promise == 0 ? "Terms" : "promise " + tested.promise;
        System.out.println(by + (tested.words.isEmpty() ? "" : " '" + tested.words + "'") + ": " + what);
    }

    static void end(String name) {
        System.out.println(name + ": " + (wrong == 0 ? "all answers are as due" : wrong + " answers are not as due"));
        if (wrong != 0) System.exit(1);
    }

    // ---- telling

    /** A text as rows of five numbers, each of which is fed by one call; what is too much is 0. */
    static int[][] fives(String text) {
        int[][] rows = new int[(text.length() + 19) / 20][5];
        for (int i = 0; i < rows.length * 20; i++) {
            int[] row = rows[i / 20];
            int place = i % 20 / 4;
            row[place] = row[place] << 8 | (i < text.length() ? text.charAt(i) : 0);
        }
        return rows;
    }

    /** Puts a text behind the TAPE, which is empty. */
    static void tell(MostCocks x, String text) {
        for (int[] n : fives(text)) x.feed(n[0], n[1], n[2], n[3], n[4]);
        due("end of '" + text + "'", x.end(text.length()), text.length());
    }

    static int valley(MostCocks x, String text) {
        tell(x, text);
        return x.valley();
    }

    static int law(MostCocks x, String text) {
        tell(x, text);
        return x.law();
    }

    /** A new object with a VALLEY and LAWS. */
    static MostCocks told(String valley, String... laws) {
        MostCocks x = new MostCocks();
        due("'" + valley + "' has COCKS", valley(x, valley) > 0, true);
        for (int i = 0; i < laws.length; i++) due("law '" + laws[i] + "'", law(x, laws[i]), i);
        return x;
    }

    static MostCocks five() {
        return told(FIVE, SLOW, "turn off");
    }

    /** COCKS without RUST that say these; their AGES; OWNER 0. */
    static MostCocks saying(int[] points, int... ages) {
        StringBuilder text = new StringBuilder();
        for (int i = 0; i < points.length; i++) {
            text.append(i == 0 ? "" : ";").append("cock 0 0 0 ").append(i < ages.length ? ages[i] : 0).append(" 0 ").append(points[i]);
        }
        return told(text.toString());
    }

    static int[] row(int... points) {
        return points;
    }

    // ---- looking

    /** All of an object that can be looked at. */
    static String state(MostCocks x) {
        StringBuilder all = new StringBuilder("counts");
        for (int what = 0; what < 7; what++) all.append(' ').append(x.count(what));
        for (int cock = 0; cock < x.count(0); cock++) {
            all.append("; cock");
            for (int what = 0; what < 7; what++) all.append(' ').append(x.cock(cock, what));
        }
        for (int tree = 0; tree < x.count(1); tree++) {
            all.append("; tree");
            for (int what = 0; what < 3; what++) all.append(' ').append(x.tree(tree, what));
        }
        all.append("; worth");
        for (int i = 0; i < 32; i++) all.append(' ').append(x.worth(i / 8, i % 8));
        return all.toString();
    }

    /** Five COCKS with all that can be unlike the beginning: BENT ones, OILED ones, FELLED ones, x, an IMAGE, bytes. */
    static MostCocks lived() {
        MostCocks x = five();
        x.image(2);
        x.bend(1, 7);
        x.morning();
        x.bend(0, 3);
        x.oil(4);
        x.fell(1, true);
        x.seed(77);
        x.feed(0x7475726e, 0x20312020, 0, 0, 0);
        x.end(6);
        return x;
    }

    /** A call of a lived object that answers this, and by which nothing happens. */
    static void leaves(String call, int want, ToIntFunction<MostCocks> does) {
        MostCocks x = lived();
        String was = state(x);
        due(call, does.applyAsInt(x), want);
        same("all behind " + call, state(x), was);
    }

    /** The same call that NONE answers. */
    static void refused(String call, ToIntFunction<MostCocks> does) {
        leaves(call, NONE, does);
    }

    // ---- faults and laws

    /** ^ marks the place of the FAULT in a text that is no VALLEY. */
    static void valleyFault(String marked, int what) {
        due("valley '" + marked + "'", valley(new MostCocks(), marked.replace("^", "")), -2 - (1 + 8 * marked.indexOf('^') + what));
    }

    /** ^ marks the place of the FAULT in a text that is no LAW. */
    static void lawFault(String marked, int what) {
        due("law '" + marked + "'", law(new MostCocks(), marked.replace("^", "")), -2 - (1 + 8 * marked.indexOf('^') + what));
    }

    static void isLaw(String text) {
        due("law '" + text + "'", law(new MostCocks(), text), 0);
    }

    /** What COCK 1 (RUST 2, AGE 42, OWNER 3, says 0, one TREE in its lee) says after so many HOURS in WIND 3. */
    static int turned(String law, int hours) {
        MostCocks x = told("cock 0 9 0 0 0 3;cock 4 4 2 42 3 0;tree 6 6", law);
        x.blow(0, 3, hours);
        return x.cock(1, 5);
    }

    static void turns(String law, int hours, int to) {
        due("POINT by '" + law + "'", turned(law, hours), to);
    }

    /** Whether a TEST holds for that COCK. */
    static void holds(String test, boolean want) {
        due("'" + test + "'", turned("turn 1 if " + test, 1) == 1, want);
    }
}
