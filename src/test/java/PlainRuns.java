import java.util.Random;

/** Random runs of calls, answered by MostCocks and by PlainCocks, which must agree. */
public final class PlainRuns {
    private static int wrong = 0;
    private static final Random random = new Random(20261118);
    private static MostCocks x;
    private static PlainCocks plain;
    private static StringBuilder run;

    private static void due(String call, int got, int want) {
        run.append(call).append(" -> ").append(got).append('\n');
        if (got != want) {
            wrong++;
            if (wrong <= 5) {
                System.out.println(run);
                System.out.println(call + " answered " + got + ", due is " + want);
            }
        }
    }

    private static int below(int n) {
        return random.nextInt(n);
    }

    /** A number from 0 on below a bound, now and then one outside it. */
    private static int about(int bound) {
        int luck = below(60);
        return luck == 0 ? -1 : luck == 1 ? bound : luck == 2 ? random.nextInt() : below(bound);
    }

    private static void feed(String text) {
        run.append("text '").append(text).append("'\n");
        int start = plain.count(5);
        for (int[] n : Bench.fives(text)) {
            due("feed", x.feed(n[0], n[1], n[2], n[3], n[4]), plain.feed(n[0], n[1], n[2], n[3], n[4]));
        }
        int stop = start + text.length();
        due("end " + stop, x.end(stop), plain.end(stop));
    }

    private static String blank() {
        return below(8) == 0 ? "  " : " ";
    }

    private static String valleyText(int cocks) {
        StringBuilder t = new StringBuilder();
        int side = 3 + below(7);
        int ages = 1 + below(99);
        for (int i = 0; i < cocks; i++) {
            t.append("cock").append(below(5) == 0 ? "" : " ").append(below(side)).append(blank()).append(below(side)).append(blank())
                    .append(below(10)).append(' ').append(below(ages)).append(' ').append(below(4)).append(' ')
                    .append(below(8)).append(below(9) == 0 ? " ;" : ";");
        }
        int trees = below(9);
        for (int i = 0; i < trees && t.length() < 370; i++) {
            t.append("tree ").append(below(side)).append(' ').append(below(side)).append(';');
        }
        while (t.length() < 380 && below(5) != 0) {
            t.append("worth ").append(below(4)).append(' ').append(below(8)).append(' ').append(below(100)).append(';');
        }
        t.setLength(t.length() - 1);
        return t.toString();
    }

    private static final String[] WORDS = {"cock", "rust", "age", "owner", "at", "off", "wind", "lee", "hour"};
    private static final String[] SIGNS = {"<", "<=", "=", ">=", ">"};

    private static String value() {
        return below(3) == 0 ? String.valueOf(below(below(3) == 0 ? 100000 : 6)) : WORDS[below(9)];
    }

    private static String sum() {
        StringBuilder t = new StringBuilder(value());
        while (below(3) == 0) t.append(below(2) == 0 ? " " : "").append("+-*/".charAt(below(4))).append(value());
        return t.toString();
    }

    private static String fact(int depth) {
        int kind = below(depth > 12 ? 1 : 6);
        if (kind == 4) return "not " + fact(depth + 1);
        if (kind == 5) return "[" + test(depth + 1) + "]";
        return sum() + SIGNS[below(5)] + sum();
    }

    private static String test(int depth) {
        StringBuilder t = new StringBuilder(fact(depth));
        while (below(3) == 0) t.append(below(2) == 0 ? " and " : " or ").append(fact(depth));
        return t.toString();
    }

    private static String lawText() {
        StringBuilder t = new StringBuilder();
        int clauses = 1 + below(4);
        for (int i = 0; i < clauses; i++) {
            t.append(i == 0 ? "" : ";").append("turn ").append(below(2) == 0 ? String.valueOf(1 + below(3)) : sum());
            if (below(4) != 0) t.append(" if ").append(test(0));
        }
        return t.length() > 400 ? "turn 1" : t.toString();
    }

    private static final String[] BITS = {"turn ", " if ", "not ", "[", "]", ";", "1", "rust", "<", ">=", "=", " and ",
        " or ", "cock 1 1 1 1 1 1", "tree 1 1", "worth 1 1 1", "123456", "00001", "x", "Z", "-", "+", "/", " ", "100", "\u00ff"};

    private static String broken(String text) {
        StringBuilder t = new StringBuilder(text);
        for (int i = 1 + below(2); i > 0; i--) {
            int at = below(t.length() + 1);
            int kind = below(3);
            if (kind == 0) t.insert(at, BITS[below(BITS.length)]);
            if (kind == 1 && at < t.length()) t.deleteCharAt(at);
            if (kind == 2 && at < t.length()) t.setCharAt(at, (char) (below(4) == 0 ? below(256) : 32 + below(95)));
        }
        if (below(6) == 0) t.setLength(below(t.length() + 1));
        if (t.length() > 400) t.setLength(400);
        return t.toString();
    }

    /** Long texts near the limits of how deep and how long one may be. */
    private static String edgeLaw() {
        switch (below(4)) {
            case 0: return "turn 1" + "+1".repeat(50 + below(20)) + (below(2) == 0 ? " if 1=1" : "");
            case 1: return "turn 1 if " + "not ".repeat(below(8)) + "[".repeat(below(8)) + "1=1" + "]".repeat(below(8));
            case 2: return "turn 1;".repeat(9 + below(5)) + "turn off";
            default: return "turn 1 if 1=1" + " and 1<2".repeat(15 + below(8));
        }
    }

    private static void tellValley(int cocks) {
        feed(below(6) == 0 ? broken(valleyText(cocks)) : valleyText(cocks));
        due("valley", x.valley(), plain.valley());
    }

    private static void tellLaw() {
        int kind = below(6);
        feed(kind == 0 ? broken(lawText()) : kind == 1 ? edgeLaw() : lawText());
        due("law", x.law(), plain.law());
    }

    private static void change(int cocks) {
        int a = about(cocks);
        int b = about(8);
        int n = about(25);
        int l = about(6);
        switch (below(12)) {
            case 0: due("blow " + l + " " + b + " " + n, x.blow(l, b, n), plain.blow(l, b, n)); break;
            case 1: due("bend " + a + " " + b, x.bend(a, b), plain.bend(a, b)); break;
            case 2: due("oil " + a, x.oil(a), plain.oil(a)); break;
            case 3: n = about(10); due("rusts " + a + " " + n, x.rusts(a, n), plain.rusts(a, n)); break;
            case 4: {
                boolean is = below(2) == 0;
                due("fell " + b + " " + is, x.fell(b, is) ? 1 : 0, plain.fell(b, is) ? 1 : 0);
                break;
            }
            case 5: due("morning", x.morning(), plain.morning()); break;
            case 6: n = random.nextInt(); due("seed " + n, x.seed(n), plain.seed(n)); break;
            case 7: due("lot", x.lot(), plain.lot()); break;
            case 8: due("image " + b / 2, x.image(b / 2), plain.image(b / 2)); break;
            case 9: due("back " + b / 2, x.back(b / 2), plain.back(b / 2)); break;
            case 10: if (below(2) == 0) tellValley(1 + below(cocks)); break;
            default: if (below(3) == 0) tellLaw(); break;
        }
    }

    /** Mostly of so many COCKS, now and then with one too many, or with any bits. */
    private static int set(int cocks) {
        int all = 1 << (below(10) == 0 ? cocks + 1 : cocks);
        return below(3) == 0 ? 0 : below(20) == 0 ? random.nextInt() : below(all) & below(all);
    }

    private static void ask(int cocks) {
        int way = about(4);
        int p = about(8);
        int q = about(8);
        int c = about(cocks);
        int law = about(3);
        int n = about(25);
        int what = about(2);
        switch (below(12)) {
            case 0: due("vote " + way, x.vote(way), plain.vote(way)); break;
            case 1: due("says " + p, x.says(p), plain.says(p)); break;
            case 2: {
                int f = set(cocks);
                due("cheapest " + way + " " + p + " " + f + " " + what, x.cheapest(way, p, f, what), plain.cheapest(way, p, f, what));
                break;
            }
            case 3: {
                int f = set(cocks);
                int g = set(cocks);
                due("answer " + way + " " + p + " " + f + " " + q + " " + g + " " + what,
                        x.answer(way, p, f, q, g, what), plain.answer(way, p, f, q, g, what));
                break;
            }
            case 4: n = about(below(2) == 0 ? 4 : 13); due("bought " + way + " " + n, x.bought(way, n), plain.bought(way, n)); break;
            case 5: due("swings " + way + " " + c + " " + p + " " + q, x.swings(way, c, p, q), plain.swings(way, c, p, q)); break;
            case 6: due("explained " + law + " " + n + " " + c, x.explained(law, n, c), plain.explained(law, n, c)); break;
            case 7: what = about(3); due("trueWind " + law + " " + n + " " + what, x.trueWind(law, n, what), plain.trueWind(law, n, what)); break;
            case 8: due("after " + law + " " + p + " " + n + " " + way + " " + what,
                    x.after(law, p, n, way, what), plain.after(law, p, n, way, what)); break;
            case 9: due("felled " + law + " " + p + " " + n + " " + way, x.felled(law, p, n, way), plain.felled(law, p, n, way)); break;
            case 10: due("oiled " + law + " " + p + " " + n + " " + way + " " + what,
                    x.oiled(law, p, n, way, what), plain.oiled(law, p, n, way, what)); break;
            default: {
                int coins = below(3) == 0 ? about(10000) : below(60);
                due("bestPoint " + way + " " + c + " " + coins + " " + what,
                        x.bestPoint(way, c, coins, what), plain.bestPoint(way, c, coins, what));
            }
        }
    }

    private static void askYears() {
        int law = about(3);
        int m = about(below(3) == 0 ? 367 : 20);
        int n = about(25);
        int way = about(4);
        int told = about(8);
        int what = about(3);
        due("years " + law + " " + m + " " + n + " " + way + " " + told + " " + what,
                x.years(law, m, n, way, told, what), plain.years(law, m, n, way, told, what));
    }

    private static void look(int cocks) {
        int a = about(cocks);
        int b = about(8);
        int o = about(4);
        due("cock " + a + " " + b, x.cock(a, b), plain.cock(a, b));
        due("tree " + a + " " + o, x.tree(a, o), plain.tree(a, o));
        due("worth " + o + " " + b, x.worth(o, b), plain.worth(o, b));
        due("lee " + a + " " + b, x.lee(a, b), plain.lee(a, b));
        due("count " + b, x.count(b), plain.count(b));
    }

    private static void oneRun(int cocks, int calls) {
        x = new MostCocks();
        plain = new PlainCocks();
        run = new StringBuilder();
        if (below(5) != 0) tellValley(cocks);
        for (int i = 0; i < 4; i++) tellLaw();
        for (int i = 0; i < calls; i++) {
            int kind = below(10);
            if (kind < 3) change(cocks);
            else if (kind < 8) ask(cocks);
            else if (kind < 9) look(cocks);
            else askYears();
        }
        for (int c = 0; c < 12; c++) for (int w = 0; w < 7; w++) due("cock " + c + " " + w, x.cock(c, w), plain.cock(c, w));
    }

    public static void main(String[] args) {
        int times = args.length > 0 ? Integer.parseInt(args[0]) : 1;
        for (int i = 0; i < 1500 * times && wrong == 0; i++) oneRun(1 + below(7), 100);
        for (int i = 0; i < 6 * times && wrong == 0; i++) oneRun(8 + below(5), 40);
        for (int i = 0; i < 4000 * times && wrong == 0; i++) {
            x = new MostCocks();
            plain = new PlainCocks();
            run = new StringBuilder();
            for (int k = 0; k < 6; k++) {
                feed(broken(below(2) == 0 ? valleyText(1 + below(13)) : lawText()));
                if (below(2) == 0) due("valley", x.valley(), plain.valley());
                else due("law", x.law(), plain.law());
            }
        }
        System.out.println(wrong == 0 ? "PlainRuns: all agree" : "PlainRuns: " + wrong + " do not agree");
        if (wrong != 0) System.exit(1);
    }
}
