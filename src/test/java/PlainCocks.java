import java.util.ArrayList;
import java.util.Arrays;
import java.util.List;

/**
 * The document once more, written as slowly and as near to its words as can be: every set, every tree and every
 * day is gone through, nothing is kept from one question to the next. PlainRuns holds MostCocks against it.
 */
final class PlainCocks {
    static final class Fault extends RuntimeException {
        private static final long serialVersionUID = 1L;
        final int number;
        Fault(int place, int what) {
            this.number = 1 + 8 * place + what;
        }
    }

    static final class Cock implements Cloneable {
        int x, y, rust, age, owner, says, morning;
        Cock copy() {
            Cock c = new Cock();
            c.x = x; c.y = y; c.rust = rust; c.age = age; c.owner = owner; c.says = says; c.morning = morning;
            return c;
        }
    }

    static final class Tree {
        int x, y;
        boolean felled;
        Tree copy() {
            Tree t = new Tree();
            t.x = x; t.y = y; t.felled = felled;
            return t;
        }
    }

    static final class State {
        List<Cock> cocks = new ArrayList<>();
        List<Tree> trees = new ArrayList<>();
        int[][] worth = new int[4][8];
        long x = 0;
        State copy() {
            State s = new State();
            for (Cock c : cocks) s.cocks.add(c.copy());
            for (Tree t : trees) s.trees.add(t.copy());
            for (int o = 0; o < 4; o++) s.worth[o] = worth[o].clone();
            s.x = x;
            return s;
        }
    }

    interface Sum { long of(Cock c, int number, int wind, int lee, int hour); }
    interface Test { boolean of(Cock c, int number, int wind, int lee, int hour); }
    record Clause(Sum sum, Test test) { }

    State s = new State();
    String tape = "";
    final List<List<Clause>> laws = new ArrayList<>();
    final State[] images = new State[4];

    // ---- the texts

    private String text;
    private int place;
    private int depth;
    private int parts;

    private void blanks() {
        while (place < text.length() && text.charAt(place) == ' ') place++;
    }

    private char peek() {
        blanks();
        return place < text.length() ? text.charAt(place) : (char) 0xFFFF;
    }

    private String word() {
        blanks();
        int i = place;
        while (i < text.length() && text.charAt(i) >= 'a' && text.charAt(i) <= 'z') i++;
        return text.substring(place, i);
    }

    private boolean take(String w) {
        if (!word().equals(w)) return false;
        place += w.length();
        return true;
    }

    private boolean take(char c) {
        if (peek() != c) return false;
        place++;
        return true;
    }

    private boolean atDigit() {
        return peek() >= '0' && peek() <= '9';
    }

    private int number(int most) {
        if (!atDigit()) throw new Fault(place, 0);
        int i = place;
        while (i < text.length() && Character.isDigit(text.charAt(i)) && text.charAt(i) < 128) i++;
        String digits = text.substring(place, i);
        if (digits.length() > 5 || Integer.parseInt(digits) > most) throw new Fault(place, 1);
        place = i;
        return Integer.parseInt(digits);
    }

    private State parseValley(String t) {
        text = t;
        place = 0;
        State v = new State();
        int clauses = 0;
        do {
            String w = word();
            if (!w.equals("cock") && !w.equals("tree") && !w.equals("worth")) throw new Fault(place, 0);
            clauses++;
            if (clauses > 40) throw new Fault(place, 4);
            if (w.equals("cock") && v.cocks.size() == 12) throw new Fault(place, 4);
            if (w.equals("tree") && v.trees.size() == 12) throw new Fault(place, 4);
            take(w);
            if (w.equals("cock")) {
                Cock c = new Cock();
                c.x = number(9); c.y = number(9); c.rust = number(9); c.age = number(99); c.owner = number(3);
                c.says = number(7);
                c.morning = c.says;
                v.cocks.add(c);
            } else if (w.equals("tree")) {
                Tree tree = new Tree();
                tree.x = number(9); tree.y = number(9);
                v.trees.add(tree);
            } else {
                int owner = number(3);
                int point = number(7);
                v.worth[owner][point] = number(99);
            }
        } while (take(';'));
        blanks();
        if (place < text.length() || v.cocks.isEmpty()) throw new Fault(place, 0);
        return v;
    }

    private List<Clause> parseLaw(String t) {
        text = t;
        place = 0;
        depth = 0;
        parts = 0;
        List<Clause> law = new ArrayList<>();
        do {
            if (!word().equals("turn")) throw new Fault(place, 0);
            if (law.size() == 12) throw new Fault(place, 4);
            take("turn");
            Sum sum = sum();
            Test test = take("if") ? test() : (c, k, w, l, h) -> true;
            law.add(new Clause(sum, test));
        } while (take(';'));
        blanks();
        if (place < text.length()) throw new Fault(place, 0);
        return law;
    }

    private Test test() {
        Test left = part();
        while (take("or")) {
            Test a = left;
            Test b = part();
            left = (c, k, w, l, h) -> a.of(c, k, w, l, h) || b.of(c, k, w, l, h);
        }
        return left;
    }

    private Test part() {
        Test left = fact();
        while (take("and")) {
            Test a = left;
            Test b = fact();
            left = (c, k, w, l, h) -> a.of(c, k, w, l, h) && b.of(c, k, w, l, h);
        }
        return left;
    }

    private Test fact() {
        boolean not = word().equals("not");
        if (not || peek() == '[') {
            if (depth == 10) throw new Fault(place, 2);
            depth++;
            Test inner;
            if (not) {
                take("not");
                Test a = fact();
                inner = (c, k, w, l, h) -> !a.of(c, k, w, l, h);
            } else {
                take('[');
                inner = test();
                if (!take(']')) throw new Fault(place, 0);
            }
            depth--;
            return inner;
        }
        Sum a = sum();
        char sign = peek();
        if (sign != '<' && sign != '=' && sign != '>') throw new Fault(place, 0);
        if (++parts > 60) throw new Fault(place, 3);
        place++;
        boolean orEqual = sign != '=' && place < text.length() && text.charAt(place) == '=';
        if (orEqual) place++;
        Sum b = sum();
        return (c, k, w, l, h) -> {
            int order = Long.compare(a.of(c, k, w, l, h), b.of(c, k, w, l, h));
            return sign == '=' ? order == 0 : order == 0 ? orEqual : sign == '<' ? order < 0 : order > 0;
        };
    }

    private Sum sum() {
        Sum left = term();
        while (peek() == '+' || peek() == '-') {
            boolean plus = peek() == '+';
            place++;
            Sum a = left;
            Sum b = term();
            left = (c, k, w, l, h) -> plus ? a.of(c, k, w, l, h) + b.of(c, k, w, l, h)
                    : a.of(c, k, w, l, h) - b.of(c, k, w, l, h);
        }
        return left;
    }

    private Sum term() {
        Sum left = value();
        while (peek() == '*' || peek() == '/') {
            boolean times = peek() == '*';
            place++;
            Sum a = left;
            Sum b = value();
            left = (c, k, w, l, h) -> {
                long one = a.of(c, k, w, l, h);
                long other = b.of(c, k, w, l, h);
                return times ? one * other : other == 0 ? 0 : one / other;
            };
        }
        return left;
    }

    private Sum value() {
        blanks();
        int start = place;
        if (atDigit()) {
            int n = number(99999);
            if (++parts > 60) throw new Fault(start, 3);
            return (c, k, w, l, h) -> n;
        }
        String word = word();
        Sum value = switch (word) {
            case "cock" -> (c, k, w, l, h) -> k;
            case "rust" -> (c, k, w, l, h) -> c.rust;
            case "age" -> (c, k, w, l, h) -> c.age;
            case "owner" -> (c, k, w, l, h) -> c.owner;
            case "at" -> (c, k, w, l, h) -> c.says;
            case "off" -> (c, k, w, l, h) -> off(c.says, w);
            case "wind" -> (c, k, w, l, h) -> w;
            case "lee" -> (c, k, w, l, h) -> l;
            case "hour" -> (c, k, w, l, h) -> h;
            default -> throw new Fault(start, 0);
        };
        if (++parts > 60) throw new Fault(start, 3);
        take(word);
        return value;
    }

    // ---- hours and votes

    static int off(int a, int b) {
        int d = Math.abs(a - b);
        return d > 4 ? 8 - d : d;
    }

    static int lee(State s, int cock, int wind) {
        int[][] steps = {{0, -1}, {1, -1}, {1, 0}, {1, 1}, {0, 1}, {-1, 1}, {-1, 0}, {-1, -1}};
        int n = 0;
        int x = s.cocks.get(cock).x;
        int y = s.cocks.get(cock).y;
        for (int k = 1; k <= 3; k++) {
            x += steps[wind][0];
            y += steps[wind][1];
            for (Tree t : s.trees) if (!t.felled && t.x == x && t.y == y) n++;
        }
        return n;
    }

    static void hours(State s, List<Clause> law, int wind, int n) {
        for (int hour = 0; hour < n; hour++) {
            int[] next = new int[s.cocks.size()];
            for (int k = 0; k < next.length; k++) {
                Cock c = s.cocks.get(k);
                long turn = 0;
                for (Clause clause : law) {
                    if (clause.test.of(c, k, wind, lee(s, k, wind), hour)) {
                        turn = clause.sum.of(c, k, wind, lee(s, k, wind), hour);
                        break;
                    }
                }
                int off = off(c.says, wind);
                if (turn < 0) turn = 0;
                if (turn > off) turn = off;
                boolean right = (c.says + off) % 8 == wind;
                next[k] = (int) ((c.says + (right ? turn : 8 - turn)) % 8);
            }
            for (int k = 0; k < next.length; k++) s.cocks.get(k).says = next[k];
        }
    }

    static int vote(State s, int way) {
        int n = s.cocks.size();
        if (way == 2) {
            int[] row = s.cocks.stream().mapToInt(c -> c.says).sorted().toArray();
            return row[n / 2 - (n % 2 == 0 ? 1 : 0)];
        }
        if (way == 3) return struckOut(s);
        long[] tally = new long[8];
        for (Cock c : s.cocks) tally[c.says] += way == 0 ? 1 : c.age + 1;
        long most = Arrays.stream(tally).max().getAsLong();
        Cock oldest = null;
        for (Cock c : s.cocks) if (tally[c.says] == most && (oldest == null || c.age > oldest.age)) oldest = c;
        return oldest.says;
    }

    private static int struckOut(State s) {
        int[] says = s.cocks.stream().mapToInt(c -> c.says).toArray();
        while (true) {
            int[] tally = new int[8];
            for (int p : says) tally[p]++;
            int said = 0;
            int fewest = -1;
            int winner = -1;
            for (int p = 7; p >= 0; p--) {
                if (tally[p] == 0) continue;
                said++;
                if (2 * tally[p] > says.length) winner = p;
                if (fewest < 0 || tally[p] < tally[fewest]) fewest = p;
            }
            if (winner >= 0) return winner;
            if (said == 1) return fewest;
            int nearest = -1;
            int best = 9;
            for (int turn : new int[] {1, -1, 2, -2, 3, -3, 4}) {
                int p = (fewest + turn + 8) % 8;
                if (tally[p] > 0 && off(p, fewest) < best) {
                    best = off(p, fewest);
                    nearest = p;
                }
            }
            for (int i = 0; i < says.length; i++) if (says[i] == fewest) says[i] = nearest;
        }
    }

    // ---- the face, in its order

    int feed(int a, int b, int c, int d, int e) {
        if (tape.length() > 380) return -1;
        StringBuilder t = new StringBuilder(tape);
        for (int n : new int[] {a, b, c, d, e}) {
            t.append((char) (n >>> 24)).append((char) (n >> 16 & 255)).append((char) (n >> 8 & 255)).append((char) (n & 255));
        }
        tape = t.toString();
        return tape.length();
    }

    int end(int n) {
        if (n < 0 || n > tape.length()) return -1;
        tape = tape.substring(0, n);
        return n;
    }

    int valley() {
        String t = tape;
        tape = "";
        try {
            State v = parseValley(t);
            v.x = s.x;
            s = v;
            return s.cocks.size();
        } catch (Fault f) {
            return -2 - f.number;
        }
    }

    int law() {
        if (laws.size() == 6) return -1;
        String t = tape;
        tape = "";
        try {
            laws.add(parseLaw(t));
            return laws.size() - 1;
        } catch (Fault f) {
            return -2 - f.number;
        }
    }

    private boolean isCock(int c) { return c >= 0 && c < s.cocks.size(); }
    private boolean in(int n, int least, int most) { return n >= least && n <= most; }
    private boolean empty() { return s.cocks.isEmpty(); }
    private boolean isLaw(int l) { return in(l, 0, laws.size() - 1); }

    int cock(int cock, int what) {
        if (!isCock(cock) || !in(what, 0, 6)) return -1;
        Cock c = s.cocks.get(cock);
        return new int[] {c.x, c.y, c.rust, c.age, c.owner, c.says, c.morning}[what];
    }

    int tree(int tree, int what) {
        if (!in(tree, 0, s.trees.size() - 1) || !in(what, 0, 2)) return -1;
        Tree t = s.trees.get(tree);
        return new int[] {t.x, t.y, t.felled ? 1 : 0}[what];
    }

    int worth(int owner, int point) {
        return empty() || !in(owner, 0, 3) || !in(point, 0, 7) ? -1 : s.worth[owner][point];
    }

    int lee(int cock, int wind) {
        return !isCock(cock) || !in(wind, 0, 7) ? -1 : lee(s, cock, wind);
    }

    int blow(int law, int wind, int n) {
        if (empty() || !isLaw(law) || !in(wind, 0, 7) || !in(n, 1, 24)) return -1;
        State was = s.copy();
        hours(s, laws.get(law), wind, n);
        int others = 0;
        for (int i = 0; i < s.cocks.size(); i++) if (s.cocks.get(i).says != was.cocks.get(i).says) others++;
        return others;
    }

    static int bent(Cock c, int point) {
        int cost = (c.rust + 1) * off(c.says, point);
        c.says = point;
        return cost;
    }

    int bend(int cock, int point) {
        return !isCock(cock) || !in(point, 0, 7) ? -1 : bent(s.cocks.get(cock), point);
    }

    int oil(int cock) {
        return rusts(cock, 0);
    }

    int rusts(int cock, int n) {
        if (!isCock(cock) || !in(n, 0, 9)) return -1;
        int was = s.cocks.get(cock).rust;
        s.cocks.get(cock).rust = n;
        return was;
    }

    boolean fell(int tree, boolean is) {
        if (!in(tree, 0, s.trees.size() - 1) || s.trees.get(tree).felled == is) return false;
        s.trees.get(tree).felled = is;
        return true;
    }

    int morning() {
        int n = 0;
        for (Cock c : s.cocks) {
            if (c.says != c.morning) n++;
            c.morning = c.says;
        }
        return n;
    }

    int vote(int way) {
        return empty() || !in(way, 0, 3) ? -1 : vote(s, way);
    }

    int says(int point) {
        return empty() || !in(point, 0, 7) ? -1 : (int) s.cocks.stream().filter(c -> c.says == point).count();
    }

    /** {cost, set}, or null. */
    static int[] cheapest(State s, int way, int point, int forbidden) {
        int[] best = null;
        for (int set = 0; set < 1 << s.cocks.size(); set++) {
            if ((set & forbidden) != 0) continue;
            State t = s.copy();
            int cost = bendAll(t, set, point);
            if (vote(t, way) == point) best = better(best, cost, set);
        }
        return best;
    }

    static int bendAll(State t, int set, int point) {
        int cost = 0;
        for (int i = 0; i < t.cocks.size(); i++) if ((set >> i & 1) != 0) cost += bent(t.cocks.get(i), point);
        return cost;
    }

    static int[] better(int[] best, int cost, int set) {
        int[] now = {cost, set};
        if (best == null || cost < best[0]) return now;
        if (cost > best[0]) return best;
        int order = Integer.compare(Integer.bitCount(set), Integer.bitCount(best[1]));
        return order < 0 || order == 0 && set < best[1] ? now : best;
    }

    /** Whether the set has one that is no COCK. */
    boolean strange(int set) {
        for (int bit = 0; bit < 32; bit++) if ((set >> bit & 1) != 0 && bit >= s.cocks.size()) return true;
        return false;
    }

    int cheapest(int way, int point, int forbidden, int what) {
        if (empty() || !in(way, 0, 3) || !in(point, 0, 7) || !in(what, 0, 1) || strange(forbidden)) return -1;
        int[] best = cheapest(s, way, point, forbidden);
        return best == null ? -2 : best[what];
    }

    int answer(int way, int point, int forbidden, int other, int otherForbidden, int what) {
        if (empty() || !in(way, 0, 3) || !in(point, 0, 7) || !in(other, 0, 7) || !in(what, 0, 1)) return -1;
        if (strange(forbidden) || strange(otherForbidden)) return -1;
        int[] best = cheapest(s, way, point, forbidden);
        if (best == null) return -2;
        State t = s.copy();
        bendAll(t, best[1], point);
        best = cheapest(t, way, other, otherForbidden);
        return best == null ? -2 : best[what];
    }

    int bought(int way, int n) {
        if (empty() || !in(way, 0, 3) || !in(n, 0, 12)) return -1;
        int points = 0;
        for (int set = 0; set < 1 << s.cocks.size(); set++) {
            for (int point = 0; point < 8 && Integer.bitCount(set) <= n; point++) {
                State t = s.copy();
                bendAll(t, set, point);
                if (vote(t, way) == point) points |= 1 << point;
            }
        }
        return points;
    }

    int swings(int way, int cock, int one, int other) {
        if (!isCock(cock) || !in(way, 0, 3) || !in(one, 0, 7) || !in(other, 0, 7) || one == other) return -1;
        int n = 0;
        for (int set = 0; set < 1 << s.cocks.size(); set++) {
            if ((set >> cock & 1) != 0) continue;
            State t = s.copy();
            for (int i = 0; i < t.cocks.size(); i++) t.cocks.get(i).says = (set >> i & 1) != 0 ? other : one;
            int first = vote(t, way);
            t.cocks.get(cock).says = other;
            if (vote(t, way) != first) n++;
        }
        return n;
    }

    private int explainedWinds(int law, int n, int cock) {
        int winds = 0;
        for (int wind = 0; wind < 8; wind++) {
            State t = s.copy();
            for (Cock c : t.cocks) c.says = c.morning;
            hours(t, laws.get(law), wind, n);
            if (t.cocks.get(cock).says == s.cocks.get(cock).says) winds |= 1 << wind;
        }
        return winds;
    }

    int explained(int law, int n, int cock) {
        return !isCock(cock) || !isLaw(law) || !in(n, 0, 24) ? -1 : explainedWinds(law, n, cock);
    }

    int trueWind(int law, int n, int what) {
        if (empty() || !isLaw(law) || !in(n, 0, 24) || !in(what, 0, 2)) return -1;
        int[] not = new int[8];
        for (int c = 0; c < s.cocks.size(); c++) {
            int winds = explainedWinds(law, n, c);
            for (int w = 0; w < 8; w++) if ((winds >> w & 1) == 0) not[w] |= 1 << c;
        }
        int best = 0;
        for (int w = 1; w < 8; w++) if (Integer.bitCount(not[w]) < Integer.bitCount(not[best])) best = w;
        return new int[] {best, s.cocks.size() - Integer.bitCount(not[best]), not[best]}[what];
    }

    private int voteThen(State t, int law, int wind, int n, int way) {
        hours(t, laws.get(law), wind, n);
        return vote(t, way);
    }

    private boolean asked(int law, int wind, int n, int way) {
        return !empty() && isLaw(law) && in(wind, 0, 7) && in(n, 0, 24) && in(way, 0, 3);
    }

    int after(int law, int wind, int n, int way, int what) {
        if (!asked(law, wind, n, way) || !in(what, 0, 1)) return -1;
        int v = voteThen(s.copy(), law, wind, n, way);
        return what == 0 ? v : off(v, wind);
    }

    int felled(int law, int wind, int n, int way) {
        if (!asked(law, wind, n, way)) return -1;
        if (voteThen(s.copy(), law, wind, n, way) == wind) return -3;
        for (int i = 0; i < s.trees.size(); i++) {
            State t = s.copy();
            t.trees.get(i).felled = true;
            if (voteThen(t, law, wind, n, way) == wind) return i;
        }
        return -2;
    }

    int oiled(int law, int wind, int n, int way, int what) {
        if (!asked(law, wind, n, way) || !in(what, 0, 1)) return -1;
        int[] best = null;
        for (int set = 0; set < 1 << s.cocks.size(); set++) {
            State t = s.copy();
            int cost = 0;
            for (int i = 0; i < t.cocks.size(); i++) {
                if ((set >> i & 1) != 0) {
                    cost += t.cocks.get(i).rust;
                    t.cocks.get(i).rust = 0;
                }
            }
            if (voteThen(t, law, wind, n, way) == wind) best = better(best, cost, set);
        }
        return best == null ? -2 : best[what];
    }

    int bestPoint(int way, int owner, int coins, int what) {
        if (empty() || !in(way, 0, 3) || !in(owner, 0, 3) || !in(coins, 0, 9999) || !in(what, 0, 1)) return -1;
        int others = 0;
        for (int i = 0; i < s.cocks.size(); i++) if (s.cocks.get(i).owner != owner) others |= 1 << i;
        int best = -1;
        int most = 0;
        for (int p = 0; p < 8; p++) {
            int[] price = p == vote(s, way) ? new int[] {0, 0} : cheapest(s, way, p, others);
            if (price == null || price[0] > coins) continue;
            int left = s.worth[owner][p] - price[0];
            if (best < 0 || left > most) {
                best = p;
                most = left;
            }
        }
        return what == 0 ? best : most;
    }

    int seed(int x) {
        if (x < 0) return -1;
        int was = (int) s.x;
        s.x = x;
        return was;
    }

    private static int draw(State t) {
        t.x = (t.x * 1103515245L + 12345L) % 2147483648L;
        return (int) (t.x / 65536);
    }

    int lot() {
        return empty() ? -1 : s.cocks.get(draw(s) % s.cocks.size()).says;
    }

    int years(int law, int m, int n, int way, int told, int what) {
        if (empty() || !isLaw(law) || !in(m, 1, 366) || !in(n, 1, 24) || !in(way, 0, 3) || !in(what, 0, 2)) return -1;
        if (!in(told, 0, what == 2 ? 3 : 7)) return -1;
        State t = s.copy();
        int[] sums = new int[3];
        for (int day = 0; day < m; day++) {
            int wind = draw(t) % 8;
            hours(t, laws.get(law), wind, n);
            int v = vote(t, way);
            if (v == told) sums[0]++;
            if (v == wind) sums[1]++;
            if (told < 4) sums[2] += s.worth[told][v];
        }
        return sums[what];
    }

    int count(int what) {
        if (!in(what, 0, 6)) return -1;
        int felled = (int) s.trees.stream().filter(t -> t.felled).count();
        int ages = s.cocks.stream().mapToInt(c -> c.age).sum();
        return new int[] {s.cocks.size(), s.trees.size(), laws.size(), felled, (int) s.x, tape.length(), ages}[what];
    }

    int image(int k) {
        if (!in(k, 0, 3)) return -1;
        images[k] = s.copy();
        return s.cocks.size();
    }

    int back(int k) {
        if (!in(k, 0, 3) || images[k] == null) return -1;
        s = images[k].copy();
        return s.cocks.size();
    }
}
