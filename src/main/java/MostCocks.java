/** A valley of weathercocks: how they turn, what is law by them, and what it costs to have it otherwise. */
public final class MostCocks {
    public static final int NONE = -1;

    /** What is asked for can't be bought, or none would do. */
    private static final int IMPOSSIBLE = -2;
    /** It is so as it is. */
    private static final int ALREADY = -3;

    private static final int BYTES = 400;
    private static final int COCKS = 12;
    private static final int TREES = 12;
    private static final int OWNERS = 4;
    private static final int POINTS = 8;
    private static final int LAWS = 6;
    private static final int IMAGES = 4;
    private static final int WAYS = 4;
    private static final int HOURS = 24;
    private static final int DAYS = 366;
    private static final int COINS = 9999;

    private final Tape tape = new Tape();
    private final Tokens tokens = new Tokens();
    private final ValleyReader valleyReader = new ValleyReader(tokens);
    private final LawReader lawReader = new LawReader(tokens);
    private final Valley now = new Valley();
    private final Valley draft = new Valley();
    private final Valley[] images = new Valley[IMAGES];
    private final Law[] laws = new Law[LAWS];
    private int lawsTold = 0;
    private final Weather weather = new Weather();
    private final Ballot ballot = new Ballot();
    private final Search search = new Search(ballot);
    private final Almanac almanac = new Almanac(now, weather, ballot);
    /** What all say in an hour that is only asked for. */
    private final int[] then = new int[COCKS];

    public MostCocks() {
        for (int i = 0; i < LAWS; i++) {
            laws[i] = new Law();
        }
    }

    public int feed(int a, int b, int c, int d, int e) {
        if (tape.length + 20 > BYTES) {
            return NONE;
        }
        tape.append(a);
        tape.append(b);
        tape.append(c);
        tape.append(d);
        tape.append(e);
        return tape.length;
    }

    public int end(int n) {
        if (n < 0 || n > tape.length) {
            return NONE;
        }
        tape.length = n;
        return n;
    }

    public int valley() {
        tokens.cut(tape);
        tape.length = 0;
        if (!valleyReader.reads(draft)) {
            return -2 - tokens.fault;
        }
        draft.keepMorning();
        draft.drawn = now.drawn;
        now.become(draft);
        return now.cocks;
    }

    public int law() {
        if (lawsTold >= LAWS) {
            return NONE;
        }
        tokens.cut(tape);
        tape.length = 0;
        if (!lawReader.reads(laws[lawsTold])) {
            return -2 - tokens.fault;
        }
        lawsTold++;
        return lawsTold - 1;
    }

    public int cock(int cock, int what) {
        if (!now.hasCock(cock)) {
            return NONE;
        }
        switch (what) {
            case 0: return now.cockX[cock];
            case 1: return now.cockY[cock];
            case 2: return now.rust[cock];
            case 3: return now.age[cock];
            case 4: return now.owner[cock];
            case 5: return now.said[cock];
            case 6: return now.kept[cock];
            default: return NONE;
        }
    }

    public int tree(int tree, int what) {
        if (!now.hasTree(tree)) {
            return NONE;
        }
        switch (what) {
            case 0: return now.treeX[tree];
            case 1: return now.treeY[tree];
            case 2: return now.felledTrees >> tree & 1;
            default: return NONE;
        }
    }

    public int worth(int owner, int point) {
        if (!isThere() || !isBelow(owner, OWNERS) || !isBelow(point, POINTS)) {
            return NONE;
        }
        return now.gain(owner, point);
    }

    public int lee(int cock, int wind) {
        if (!now.hasCock(cock) || !isBelow(wind, POINTS)) {
            return NONE;
        }
        return now.sheltering(cock, wind, now.felledTrees);
    }

    public int blow(int law, int wind, int n) {
        if (!canBlow(law, wind, n) || n < 1) {
            return NONE;
        }
        weather.turnAll(laws[law], now, wind, n, now.felledTrees, then);
        int turned = 0;
        for (int cock = 0; cock < now.cocks && cock < COCKS; cock++) {
            if (then[cock] != now.said[cock]) {
                turned++;
            }
            now.said[cock] = then[cock];
        }
        return turned;
    }

    public int bend(int cock, int point) {
        if (!now.hasCock(cock) || !isBelow(point, POINTS)) {
            return NONE;
        }
        int cost = bendingCost(now.rust[cock], now.said[cock], point);
        now.said[cock] = point;
        return cost;
    }

    public int oil(int cock) {
        return rusts(cock, 0);
    }

    public int rusts(int cock, int n) {
        if (!now.hasCock(cock) || !isBelow(n, 10)) {
            return NONE;
        }
        int was = now.rust[cock];
        now.rust[cock] = n;
        return was;
    }

    public boolean fell(int tree, boolean is) {
        if (!now.hasTree(tree) || (now.felledTrees >> tree & 1) == (is ? 1 : 0)) {
            return false;
        }
        now.felledTrees ^= 1 << tree;
        return true;
    }

    public int morning() {
        int others = 0;
        for (int cock = 0; cock < now.cocks && cock < COCKS; cock++) {
            if (now.said[cock] != now.kept[cock]) {
                others++;
            }
        }
        now.keepMorning();
        return others;
    }

    public int vote(int way) {
        if (!isThere() || !isBelow(way, WAYS)) {
            return NONE;
        }
        return voteOf(now.said, way);
    }

    public int says(int point) {
        if (!isThere() || !isBelow(point, POINTS)) {
            return NONE;
        }
        int sayers = 0;
        for (int cock = 0; cock < now.cocks && cock < COCKS; cock++) {
            if (now.said[cock] == point) {
                sayers++;
            }
        }
        return sayers;
    }

    public int cheapest(int way, int point, int forbidden, int what) {
        if (!canBuy(way, point) || !now.hasAllOf(forbidden) || !isBelow(what, 2)) {
            return NONE;
        }
        search.startFrom(now);
        search.bendTo(now, point);
        search.run(now, way, point, ~forbidden);
        return search.told(what);
    }

    public int answer(int way, int point, int forbidden, int other, int otherForbidden, int what) {
        if (!canBuy(way, point) || !isBelow(other, POINTS) || !isBelow(what, 2)) {
            return NONE;
        }
        if (!now.hasAllOf(forbidden) || !now.hasAllOf(otherForbidden)) {
            return NONE;
        }
        search.startFrom(now);
        search.bendTo(now, point);
        search.run(now, way, point, ~forbidden);
        if (!search.found) {
            return IMPOSSIBLE;
        }
        search.startFromFound(now);
        search.bendTo(now, other);
        search.run(now, way, other, ~otherForbidden);
        return search.told(what);
    }

    public int bought(int way, int n) {
        if (!isThere() || !isBelow(way, WAYS) || n < 0 || n > COCKS) {
            return NONE;
        }
        int points = 0;
        search.startFrom(now);
        for (int point = 0; point < POINTS; point++) {
            search.bendEachForOne(now, point);
            search.run(now, way, point, -1);
            if (search.found && search.cost <= n) {
                points |= 1 << point;
            }
        }
        return points;
    }

    public int swings(int way, int cock, int one, int other) {
        if (!canBuy(way, one) || !now.hasCock(cock) || !isBelow(other, POINTS) || one == other) {
            return NONE;
        }
        return search.unlikeCases(now, way, cock, one, other);
    }

    public int explained(int law, int n, int cock) {
        if (!canBlow(law, 0, n) || !now.hasCock(cock)) {
            return NONE;
        }
        int winds = 0;
        for (int wind = 0; wind < POINTS; wind++) {
            if (isExplained(law, n, cock, wind)) {
                winds |= 1 << wind;
            }
        }
        return winds;
    }

    public int trueWind(int law, int n, int what) {
        if (!canBlow(law, 0, n) || !isBelow(what, 3)) {
            return NONE;
        }
        int best = 0;
        int most = -1;
        int bent = 0;
        for (int wind = 0; wind < POINTS; wind++) {
            int unexplained = unexplainedBy(law, n, wind);
            int explains = now.cocks - Integer.bitCount(unexplained);
            if (explains > most) {
                best = wind;
                most = explains;
                bent = unexplained;
            }
        }
        return what == 0 ? best : what == 1 ? most : bent;
    }

    public int after(int law, int wind, int n, int way, int what) {
        if (!canBlow(law, wind, n) || !isBelow(way, WAYS) || !isBelow(what, 2)) {
            return NONE;
        }
        int point = voteAfter(law, wind, n, way, now.felledTrees);
        return what == 0 ? point : offBetween(point, wind);
    }

    public int felled(int law, int wind, int n, int way) {
        if (!canBlow(law, wind, n) || !isBelow(way, WAYS)) {
            return NONE;
        }
        if (voteAfter(law, wind, n, way, now.felledTrees) == wind) {
            return ALREADY;
        }
        for (int tree = 0; tree < now.trees && tree < TREES; tree++) {
            if (voteAfter(law, wind, n, way, now.felledTrees | 1 << tree) == wind) {
                return tree;
            }
        }
        return IMPOSSIBLE;
    }

    public int oiled(int law, int wind, int n, int way, int what) {
        if (!canBlow(law, wind, n) || !isBelow(way, WAYS) || !isBelow(what, 2)) {
            return NONE;
        }
        weather.turnAll(laws[law], now, wind, n, now.felledTrees, search.from);
        for (int cock = 0; cock < now.cocks && cock < COCKS; cock++) {
            weather.stand(now, cock, wind, now.felledTrees);
            weather.words[Weather.RUST] = 0;
            search.to[cock] = weather.turned(laws[law], now.said[cock], n);
            search.price[cock] = now.rust[cock];
        }
        search.run(now, way, wind, -1);
        return search.told(what);
    }

    public int bestPoint(int way, int owner, int coins, int what) {
        if (!canBuy(way, 0) || !isBelow(owner, OWNERS) || coins < 0 || coins > COINS || !isBelow(what, 2)) {
            return NONE;
        }
        int best = 0;
        int most = -1;
        int own = now.cocksOf(owner);
        search.startFrom(now);
        for (int point = 0; point < POINTS; point++) {
            search.bendTo(now, point);
            search.run(now, way, point, own);
            // the POINT that it is as it is costs nothing, so it is always among them
            if (search.found && search.cost <= coins && now.gain(owner, point) - search.cost > most) {
                best = point;
                most = now.gain(owner, point) - search.cost;
            }
        }
        return what == 0 ? best : most;
    }

    public int seed(int x) {
        if (x < 0) {
            return NONE;
        }
        int was = now.drawn;
        now.drawn = x;
        return was;
    }

    public int lot() {
        if (!isThere()) {
            return NONE;
        }
        now.drawn = nextDrawn(now.drawn);
        int cock = now.drawn / 65536 % now.cocks;
        return now.hasCock(cock) ? now.said[cock] : NONE;
    }

    public int years(int law, int m, int n, int way, int told, int what) {
        if (!canBlow(law, 0, n) || n < 1 || m < 1 || m > DAYS || !isBelow(way, WAYS) || !isBelow(what, 3)) {
            return NONE;
        }
        if (!isBelow(told, what == 2 ? OWNERS : POINTS)) {
            return NONE;
        }
        almanac.open(laws[law], n);
        int sum = 0;
        for (int day = 0; day < m; day++) {
            int point = almanac.voteOfNextDay(way);
            if (what == 2) {
                sum += now.gain(told, point);
            } else if (point == (what == 0 ? told : almanac.wind)) {
                sum++;
            }
        }
        return sum;
    }

    public int count(int what) {
        switch (what) {
            case 0: return now.cocks;
            case 1: return now.trees;
            case 2: return lawsTold;
            case 3: return Integer.bitCount(now.felledTrees);
            case 4: return now.drawn;
            case 5: return tape.length;
            case 6: return now.ageOfAll();
            default: return NONE;
        }
    }

    public int image(int k) {
        if (!isBelow(k, IMAGES)) {
            return NONE;
        }
        Valley made = images[k] == null ? new Valley() : images[k];
        made.become(now);
        images[k] = made;
        return now.cocks;
    }

    public int back(int k) {
        if (!isBelow(k, IMAGES) || images[k] == null) {
            return NONE;
        }
        now.become(images[k]);
        return now.cocks;
    }

    private boolean isThere() {
        return now.cocks > 0;
    }

    private boolean canBlow(int law, int wind, int hours) {
        return isThere() && isBelow(law, lawsTold) && isBelow(wind, POINTS) && isBelow(hours, HOURS + 1);
    }

    private boolean canBuy(int way, int point) {
        return isThere() && isBelow(way, WAYS) && isBelow(point, POINTS);
    }

    private int voteOf(int[] points, int way) {
        ballot.open(now, points);
        return ballot.winner(way);
    }

    private int voteAfter(int law, int wind, int hours, int way, int felledTrees) {
        weather.turnAll(laws[law], now, wind, hours, felledTrees, then);
        return voteOf(then, way);
    }

    private boolean isExplained(int law, int hours, int cock, int wind) {
        weather.stand(now, cock, wind, now.felledTrees);
        return weather.turned(laws[law], now.kept[cock], hours) == now.said[cock];
    }

    private int unexplainedBy(int law, int hours, int wind) {
        int unexplained = 0;
        for (int cock = 0; cock < now.cocks && cock < COCKS; cock++) {
            if (!isExplained(law, hours, cock, wind)) {
                unexplained |= 1 << cock;
            }
        }
        return unexplained;
    }

    private static boolean isBelow(int number, int bound) {
        return number >= 0 && number < bound;
    }

    private static int offBetween(int one, int other) {
        int right = one - other & 7;
        return Math.min(right, 8 - right);
    }

    private static int bendingCost(int rust, int from, int to) {
        return (rust + 1) * offBetween(from, to);
    }

    private static int nextDrawn(int drawn) {
        return (int) (drawn * 1103515245L + 12345L & 2147483647L);
    }

    /** The bytes that were fed and not yet read. */
    private static final class Tape {
        final int[] bytes = new int[BYTES];
        int length = 0;

        void append(int four) {
            for (int shift = 24; shift >= 0; shift -= 8) {
                if (length < BYTES) {
                    bytes[length] = four >> shift & 255;
                    length++;
                }
            }
        }

        /** 0, which stands nowhere, behind the last byte. */
        int at(int place) {
            return place >= 0 && place < length && place < BYTES ? bytes[place] : 0;
        }
    }

    /** The TAPE cut into words, numbers and signs, how far these are read, and the FAULT found. */
    private static final class Tokens {
        static final int LAST = 1;
        static final int UNKNOWN = 2;
        static final int NUMBER = 3;
        static final int SEMICOLON = 4;
        static final int OPEN = 5;
        static final int CLOSE = 6;
        static final int PLUS = 7;
        static final int MINUS = 8;
        static final int TIMES = 9;
        static final int OVER = 10;
        static final int LESS = 11;
        static final int AT_MOST = 12;
        static final int EQUAL = 13;
        static final int AT_LEAST = 14;
        static final int MORE = 15;

        /** The words, each six signs wide: the kind of one is its place here behind FIRST_WORD. */
        static final String WORDS = "turn  if    or    and   not   cock  rust  age   owner at    off   wind  lee   hour  tree  worth ";
        static final int WIDTH = 6;
        static final int FIRST_WORD = 20;
        static final int TURN = 20;
        static final int IF = 21;
        static final int OR = 22;
        static final int AND = 23;
        static final int NOT = 24;
        static final int COCK = 25;
        static final int HOUR = 33;
        static final int TREE = 34;
        static final int WORTH = 35;

        static final int NOT_THERE = 0;
        static final int NOT_AS_TOLD = 1;
        static final int TOO_DEEP = 2;
        static final int TOO_LONG = 3;
        static final int TOO_MANY = 4;

        private final int[] kinds = new int[BYTES + 1];
        private final int[] places = new int[BYTES + 1];
        private final int[] values = new int[BYTES + 1];
        private int amount = 0;
        private int next = 0;
        int fault = 0;

        void cut(Tape tape) {
            amount = 0;
            next = 0;
            fault = 0;
            int place = 0;
            for (int i = 0; i < BYTES && place < tape.length; i++) {
                place = cutOne(tape, place);
            }
            add(LAST, tape.length, 0);
        }

        int kind() {
            return next >= 0 && next < amount && next <= BYTES ? kinds[next] : LAST;
        }

        /** Of a NUMBER: it; -1 if it has too many digits. */
        int value() {
            return next >= 0 && next < amount && next <= BYTES ? values[next] : 0;
        }

        void skip() {
            next++;
        }

        /** Marks a FAULT where we are; false, so that a reader can hand it on. */
        boolean fails(int what) {
            int place = next >= 0 && next < amount && next <= BYTES ? places[next] : 0;
            fault = 1 + 8 * place + what;
            return false;
        }

        private int cutOne(Tape tape, int place) {
            int sign = tape.at(place);
            if (sign == ' ') {
                return place + 1;
            }
            if (isDigit(sign)) {
                return cutNumber(tape, place);
            }
            return isLetter(sign) ? cutWord(tape, place) : cutSign(tape, place);
        }

        private int cutNumber(Tape tape, int start) {
            int stop = start;
            int value = 0;
            for (int i = 0; i < BYTES && isDigit(tape.at(stop)); i++) {
                value = stop - start < 5 ? value * 10 + tape.at(stop) - '0' : -1;
                stop++;
            }
            add(NUMBER, start, value);
            return stop;
        }

        private int cutWord(Tape tape, int start) {
            int stop = start;
            for (int i = 0; i < BYTES && isLetter(tape.at(stop)); i++) {
                stop++;
            }
            add(wordKind(tape, start, stop), start, 0);
            return stop;
        }

        private int cutSign(Tape tape, int place) {
            int kind = signKind(tape.at(place));
            boolean widened = (kind == LESS || kind == MORE) && tape.at(place + 1) == '=';
            if (widened) {
                kind = kind == LESS ? AT_MOST : AT_LEAST;
            }
            add(kind, place, 0);
            return widened ? place + 2 : place + 1;
        }

        private void add(int kind, int place, int value) {
            if (amount >= 0 && amount <= BYTES) {
                kinds[amount] = kind;
                places[amount] = place;
                values[amount] = value;
                amount++;
            }
        }

        private static int wordKind(Tape tape, int start, int stop) {
            for (int word = 0; word * WIDTH < WORDS.length(); word++) {
                if (isWord(tape, start, stop, word)) {
                    return FIRST_WORD + word;
                }
            }
            return UNKNOWN;
        }

        private static boolean isWord(Tape tape, int start, int stop, int word) {
            if (stop - start >= WIDTH || (word + 1) * WIDTH > WORDS.length()) {
                return false;
            }
            for (int i = 0; i < WIDTH; i++) {
                int due = start + i < stop ? tape.at(start + i) : ' ';
                if (WORDS.charAt(word * WIDTH + i) != due) {
                    return false;
                }
            }
            return true;
        }

        private static int signKind(int sign) {
            switch (sign) {
                case ';': return SEMICOLON;
                case '[': return OPEN;
                case ']': return CLOSE;
                case '+': return PLUS;
                case '-': return MINUS;
                case '*': return TIMES;
                case '/': return OVER;
                case '<': return LESS;
                case '=': return EQUAL;
                case '>': return MORE;
                default: return UNKNOWN;
            }
        }

        private static boolean isDigit(int sign) {
            return sign >= '0' && sign <= '9';
        }

        private static boolean isLetter(int sign) {
            return sign >= 'a' && sign <= 'z';
        }
    }

    /** All that an IMAGE holds: COCKS, TREES, worths, the MORNING and x; no COCKS: there is no VALLEY. */
    private static final class Valley {
        static final int[] STEP_X = {0, 1, 1, 1, 0, -1, -1, -1};
        static final int[] STEP_Y = {-1, -1, 0, 1, 1, 1, 0, -1};
        static final int REACH = 3;

        int cocks = 0;
        final int[] cockX = new int[COCKS];
        final int[] cockY = new int[COCKS];
        final int[] rust = new int[COCKS];
        final int[] age = new int[COCKS];
        final int[] owner = new int[COCKS];
        final int[] said = new int[COCKS];
        final int[] kept = new int[COCKS];
        int trees = 0;
        final int[] treeX = new int[TREES];
        final int[] treeY = new int[TREES];
        int felledTrees = 0;
        final int[] gains = new int[OWNERS * POINTS];
        /** The x of the DRAWS. */
        int drawn = 0;

        void clear() {
            cocks = 0;
            trees = 0;
            felledTrees = 0;
            for (int i = 0; i < OWNERS * POINTS; i++) {
                gains[i] = 0;
            }
        }

        void become(Valley other) {
            cocks = other.cocks;
            System.arraycopy(other.cockX, 0, cockX, 0, COCKS);
            System.arraycopy(other.cockY, 0, cockY, 0, COCKS);
            System.arraycopy(other.rust, 0, rust, 0, COCKS);
            System.arraycopy(other.age, 0, age, 0, COCKS);
            System.arraycopy(other.owner, 0, owner, 0, COCKS);
            System.arraycopy(other.said, 0, said, 0, COCKS);
            System.arraycopy(other.kept, 0, kept, 0, COCKS);
            trees = other.trees;
            System.arraycopy(other.treeX, 0, treeX, 0, TREES);
            System.arraycopy(other.treeY, 0, treeY, 0, TREES);
            felledTrees = other.felledTrees;
            System.arraycopy(other.gains, 0, gains, 0, OWNERS * POINTS);
            drawn = other.drawn;
        }

        boolean hasCock(int cock) {
            return cock >= 0 && cock < cocks && cock < COCKS;
        }

        /** Whether each bit of the set is a COCK's. */
        boolean hasAllOf(int set) {
            return isBelow(set, 1 << cocks);
        }

        boolean hasTree(int tree) {
            return tree >= 0 && tree < trees && tree < TREES;
        }

        void keepMorning() {
            System.arraycopy(said, 0, kept, 0, COCKS);
        }

        int gain(int who, int point) {
            return isBelow(who, OWNERS) && isBelow(point, POINTS) ? gains[who * POINTS + point] : 0;
        }

        void setGain(int who, int point, int gain) {
            if (isBelow(who, OWNERS) && isBelow(point, POINTS)) {
                gains[who * POINTS + point] = gain;
            }
        }

        int ageOfAll() {
            int sum = 0;
            for (int cock = 0; cock < cocks && cock < COCKS; cock++) {
                sum += age[cock];
            }
            return sum;
        }

        int cocksOf(int who) {
            int set = 0;
            for (int cock = 0; cock < cocks && cock < COCKS; cock++) {
                if (owner[cock] == who) {
                    set |= 1 << cock;
                }
            }
            return set;
        }

        /** How many TREES give a COCK lee if these are felled. */
        int sheltering(int cock, int wind, int without) {
            if (!hasCock(cock) || !isBelow(wind, POINTS)) {
                return 0;
            }
            int sheltering = 0;
            for (int tree = 0; tree < trees && tree < TREES; tree++) {
                boolean stands = (without >> tree & 1) == 0;
                if (stands && isAhead(treeX[tree] - cockX[cock], treeY[tree] - cockY[cock], wind)) {
                    sheltering++;
                }
            }
            return sheltering;
        }

        private static boolean isAhead(int x, int y, int wind) {
            for (int steps = 1; steps <= REACH; steps++) {
                if (x == steps * STEP_X[wind & 7] && y == steps * STEP_Y[wind & 7]) {
                    return true;
                }
            }
            return false;
        }
    }

    /** Reads a VALLEY. */
    private static final class ValleyReader {
        static final int CLAUSES = 40;

        private final Tokens tokens;
        private int number = 0;

        ValleyReader(Tokens tokens) {
            this.tokens = tokens;
        }

        boolean reads(Valley into) {
            into.clear();
            for (int clause = 0; clause <= CLAUSES; clause++) {
                if (!readsClause(into, clause)) {
                    return false;
                }
                if (tokens.kind() == Tokens.LAST) {
                    return into.cocks > 0 || tokens.fails(Tokens.NOT_THERE);
                }
                if (tokens.kind() != Tokens.SEMICOLON) {
                    return tokens.fails(Tokens.NOT_THERE);
                }
                tokens.skip();
            }
            return tokens.fails(Tokens.TOO_MANY);
        }

        private boolean readsClause(Valley into, int clause) {
            int kind = tokens.kind();
            boolean isCock = kind == Tokens.COCK;
            boolean isTree = kind == Tokens.TREE;
            if (!isCock && !isTree && kind != Tokens.WORTH) {
                return tokens.fails(Tokens.NOT_THERE);
            }
            if (clause >= CLAUSES || isCock && into.cocks >= COCKS || isTree && into.trees >= TREES) {
                return tokens.fails(Tokens.TOO_MANY);
            }
            tokens.skip();
            return isCock ? readsCock(into) : isTree ? readsTree(into) : readsWorth(into);
        }

        private boolean readsCock(Valley into) {
            int cock = into.cocks;
            if (!readsInto(into.cockX, cock, 9) || !readsInto(into.cockY, cock, 9)
                    || !readsInto(into.rust, cock, 9) || !readsInto(into.age, cock, 99)
                    || !readsInto(into.owner, cock, OWNERS - 1) || !readsInto(into.said, cock, POINTS - 1)) {
                return false;
            }
            into.cocks++;
            return true;
        }

        private boolean readsTree(Valley into) {
            if (!readsInto(into.treeX, into.trees, 9) || !readsInto(into.treeY, into.trees, 9)) {
                return false;
            }
            into.trees++;
            return true;
        }

        private boolean readsWorth(Valley into) {
            if (!readsNumber(OWNERS - 1)) {
                return false;
            }
            int who = number;
            if (!readsNumber(POINTS - 1)) {
                return false;
            }
            int point = number;
            if (!readsNumber(99)) {
                return false;
            }
            into.setGain(who, point, number);
            return true;
        }

        private boolean readsInto(int[] row, int place, int most) {
            if (!readsNumber(most)) {
                return false;
            }
            if (place >= 0 && place < row.length) {
                row[place] = number;
            }
            return true;
        }

        private boolean readsNumber(int most) {
            if (tokens.kind() != Tokens.NUMBER) {
                return tokens.fails(Tokens.NOT_THERE);
            }
            number = tokens.value();
            if (number < 0 || number > most) {
                return tokens.fails(Tokens.NOT_AS_TOLD);
            }
            tokens.skip();
            return true;
        }
    }

    /** A LAW as steps on a stack: a number of 0 or more is itself, below 0 the kind of a word or sign. */
    private static final class Law {
        static final int DEEPEST = 64;

        private final int[] steps = new int[BYTES];
        private int length = 0;

        void clear() {
            length = 0;
        }

        void become(Law other) {
            length = other.length;
            System.arraycopy(other.steps, 0, steps, 0, BYTES);
        }

        void add(int step) {
            if (length >= 0 && length < BYTES) {
                steps[length] = step;
                length++;
            }
        }

        /** The SUM of the first CLAUSE that holds for a COCK of these words; 0 without one. */
        long turnFor(int[] words, long[] stack) {
            int top = 0;
            for (int i = 0; i < length && i < BYTES; i++) {
                int kind = -steps[i];
                if (kind <= 0 || isWord(kind)) {
                    if (top >= DEEPEST || top >= stack.length) {
                        return 0;
                    }
                    stack[top] = kind <= 0 ? steps[i] : wordOf(words, kind);
                    top++;
                } else if (top < 1 || kind != Tokens.TURN && kind != Tokens.NOT && top < 2) {
                    return 0;
                } else if (kind == Tokens.TURN) {
                    return stack[top - 1];
                } else if (kind == Tokens.NOT) {
                    stack[top - 1] = 1 - stack[top - 1];
                } else if (kind == Tokens.IF) {
                    if (stack[top - 1] != 0) {
                        return stack[top - 2];
                    }
                    top -= 2;
                } else {
                    stack[top - 2] = joined(kind, stack[top - 2], stack[top - 1]);
                    top--;
                }
            }
            return 0;
        }

        private static boolean isWord(int kind) {
            return kind >= Tokens.COCK && kind <= Tokens.HOUR;
        }

        private static long wordOf(int[] words, int kind) {
            int word = kind - Tokens.COCK;
            return word >= 0 && word < words.length ? words[word] : 0;
        }

        private static long joined(int kind, long one, long other) {
            switch (kind) {
                case Tokens.PLUS: return one + other;
                case Tokens.MINUS: return one - other;
                case Tokens.TIMES: return one * other;
                case Tokens.OVER: return other == 0 ? 0 : one / other;
                case Tokens.LESS: return one < other ? 1 : 0;
                case Tokens.AT_MOST: return one <= other ? 1 : 0;
                case Tokens.EQUAL: return one == other ? 1 : 0;
                case Tokens.AT_LEAST: return one >= other ? 1 : 0;
                case Tokens.MORE: return one > other ? 1 : 0;
                case Tokens.AND: return one & other;
                case Tokens.OR: return one | other;
                default: return 0;
            }
        }
    }

    /** Reads a LAW. */
    private static final class LawReader {
        static final int CLAUSES = 12;
        static final int DEEPEST = 10;
        static final int LONGEST = 60;

        private final Tokens tokens;
        private final Law into = new Law();
        /** VALUES and FACTS made of a SIGN so far. */
        private int parts = 0;

        LawReader(Tokens tokens) {
            this.tokens = tokens;
        }

        boolean reads(Law law) {
            if (law == null) {
                return tokens.fails(Tokens.NOT_THERE);
            }
            into.clear();
            parts = 0;
            for (int clause = 0; clause <= CLAUSES; clause++) {
                if (tokens.kind() != Tokens.TURN) {
                    return tokens.fails(Tokens.NOT_THERE);
                }
                if (clause == CLAUSES) {
                    return tokens.fails(Tokens.TOO_MANY);
                }
                tokens.skip();
                if (!readsSum()) {
                    return false;
                }
                boolean tested = takes(Tokens.IF);
                if (tested && !readsTest(0)) {
                    return false;
                }
                into.add(tested ? -Tokens.IF : -Tokens.TURN);
                if (tokens.kind() == Tokens.LAST) {
                    law.become(into);
                    return true;
                }
                if (!takes(Tokens.SEMICOLON)) {
                    return tokens.fails(Tokens.NOT_THERE);
                }
            }
            return tokens.fails(Tokens.TOO_MANY);
        }

        /** An and is joined at once, an or waits until the PART behind it is whole. */
        private boolean readsTest(int depth) {
            boolean and = false;
            boolean or = false;
            for (int fact = 0; fact < BYTES; fact++) {
                if (!readsFact(depth)) {
                    return false;
                }
                if (and) {
                    into.add(-Tokens.AND);
                }
                and = takes(Tokens.AND);
                if (!and) {
                    if (or) {
                        into.add(-Tokens.OR);
                    }
                    or = takes(Tokens.OR);
                    if (!or) {
                        return true;
                    }
                }
            }
            return tokens.fails(Tokens.NOT_THERE);
        }

        private boolean readsFact(int depth) {
            int kind = tokens.kind();
            if (kind != Tokens.NOT && kind != Tokens.OPEN) {
                return readsComparison();
            }
            if (depth >= DEEPEST) {
                return tokens.fails(Tokens.TOO_DEEP);
            }
            tokens.skip();
            if (kind == Tokens.NOT) {
                if (!readsFact(depth + 1)) {
                    return false;
                }
                into.add(-Tokens.NOT);
                return true;
            }
            if (!readsTest(depth + 1)) {
                return false;
            }
            return takes(Tokens.CLOSE) || tokens.fails(Tokens.NOT_THERE);
        }

        private boolean readsComparison() {
            if (!readsSum()) {
                return false;
            }
            int kind = tokens.kind();
            if (kind < Tokens.LESS || kind > Tokens.MORE) {
                return tokens.fails(Tokens.NOT_THERE);
            }
            if (parts >= LONGEST) {
                return tokens.fails(Tokens.TOO_LONG);
            }
            parts++;
            tokens.skip();
            if (!readsSum()) {
                return false;
            }
            into.add(-kind);
            return true;
        }

        /** A * or / is joined at once, a + or - waits until the TERM behind it is whole. */
        private boolean readsSum() {
            int multiplying = 0;
            int adding = 0;
            for (int value = 0; value < BYTES; value++) {
                if (!readsValue()) {
                    return false;
                }
                addIfThere(multiplying);
                int sign = tokens.kind();
                multiplying = sign == Tokens.TIMES || sign == Tokens.OVER ? sign : 0;
                if (multiplying == 0) {
                    addIfThere(adding);
                    adding = sign;
                    if (sign != Tokens.PLUS && sign != Tokens.MINUS) {
                        return true;
                    }
                }
                tokens.skip();
            }
            return tokens.fails(Tokens.NOT_THERE);
        }

        private void addIfThere(int sign) {
            if (sign != 0) {
                into.add(-sign);
            }
        }

        private boolean takes(int kind) {
            if (tokens.kind() != kind) {
                return false;
            }
            tokens.skip();
            return true;
        }

        private boolean readsValue() {
            int kind = tokens.kind();
            boolean isNumber = kind == Tokens.NUMBER;
            if (!isNumber && (kind < Tokens.COCK || kind > Tokens.HOUR)) {
                return tokens.fails(Tokens.NOT_THERE);
            }
            if (isNumber && tokens.value() < 0) {
                return tokens.fails(Tokens.NOT_AS_TOLD);
            }
            if (parts >= LONGEST) {
                return tokens.fails(Tokens.TOO_LONG);
            }
            parts++;
            into.add(isNumber ? tokens.value() : -kind);
            tokens.skip();
            return true;
        }
    }

    /** How COCKS turn by a LAW; none of them looks at another, so each turns for itself. */
    private static final class Weather {
        /** The words of a COCK, in the order in which Tokens has them. */
        static final int COCK = 0;
        static final int RUST = 1;
        static final int AGE = 2;
        static final int OWNER = 3;
        static final int AT = 4;
        static final int OFF = 5;
        static final int WIND = 6;
        static final int LEE = 7;
        static final int HOUR = 8;

        final int[] words = new int[9];
        private final long[] stack = new long[Law.DEEPEST];

        void stand(Valley valley, int cock, int wind, int felledTrees) {
            if (!valley.hasCock(cock)) {
                return;
            }
            words[COCK] = cock;
            words[RUST] = valley.rust[cock];
            words[AGE] = valley.age[cock];
            words[OWNER] = valley.owner[cock];
            words[WIND] = wind;
            words[LEE] = valley.sheltering(cock, wind, felledTrees);
        }

        /** What the COCK that stands there says after so many HOURS if it says this POINT ahead of them. */
        int turned(Law law, int from, int hours) {
            if (law == null) {
                return from;
            }
            int wind = words[WIND];
            int at = from;
            for (int hour = 0; hour < hours && at != wind; hour++) {
                int right = wind - at & 7;
                int off = offBetween(wind, at);
                words[AT] = at;
                words[OFF] = off;
                words[HOUR] = hour;
                int turn = (int) Math.max(0L, Math.min((long) off, law.turnFor(words, stack)));
                at = (right <= 4 ? at + turn : at - turn) & 7;
            }
            return at;
        }

        void turnAll(Law law, Valley valley, int wind, int hours, int felledTrees, int[] into) {
            for (int cock = 0; cock < valley.cocks && cock < COCKS && cock < into.length; cock++) {
                stand(valley, cock, wind, felledTrees);
                into[cock] = turned(law, valley.said[cock], hours);
            }
        }
    }

    /** What all COCKS say in some case, and the VOTE then. */
    private static final class Ballot {
        private int cocks = 0;
        private final int[] ages = new int[COCKS];
        private final int[] points = new int[COCKS];
        private final int[] heads = new int[POINTS];
        private final int[] weights = new int[POINTS];
        private final int[] left = new int[POINTS];

        void open(Valley valley, int[] row) {
            cocks = Math.min(valley.cocks, Math.min(COCKS, row.length));
            for (int point = 0; point < POINTS; point++) {
                heads[point] = 0;
                weights[point] = 0;
            }
            for (int cock = 0; cock < cocks; cock++) {
                ages[cock] = valley.age[cock];
                points[cock] = row[cock];
                tally(cock, 1);
            }
        }

        void put(int cock, int point) {
            if (isBelow(cock, COCKS) && cock < cocks) {
                tally(cock, -1);
                points[cock] = point;
                tally(cock, 1);
            }
        }

        int winner(int way) {
            switch (way) {
                case 0: return leader(heads);
                case 1: return leader(weights);
                case 2: return middle();
                default: return lastLeft();
            }
        }

        private void tally(int cock, int times) {
            int point = points[cock] & 7;
            heads[point] += times;
            weights[point] += times * (ages[cock] + 1);
        }

        private int leader(int[] tallies) {
            int best = 0;
            boolean tied = false;
            for (int point = 1; point < POINTS; point++) {
                if (tallies[point] >= tallies[best]) {
                    tied = tallies[point] == tallies[best];
                    best = tied ? best : point;
                }
            }
            return tied ? pointOfOldest(tallies, tallies[best]) : best;
        }

        private int pointOfOldest(int[] tallies, int most) {
            int best = 0;
            int oldest = -1;
            for (int cock = 0; cock < cocks && cock < COCKS; cock++) {
                int point = points[cock] & 7;
                if (tallies[point] == most && ages[cock] > oldest) {
                    oldest = ages[cock];
                    best = point;
                }
            }
            return best;
        }

        private int middle() {
            int ahead = (cocks - 1) / 2;
            for (int point = 0; point < POINTS; point++) {
                ahead -= heads[point];
                if (ahead < 0) {
                    return point;
                }
            }
            return 0;
        }

        private int lastLeft() {
            System.arraycopy(heads, 0, left, 0, POINTS);
            for (int round = 0; round < POINTS; round++) {
                int fewest = -1;
                for (int point = 0; point < POINTS; point++) {
                    // one that is left alone has all of them, so it ends here too
                    if (left[point] * 2 > cocks) {
                        return point;
                    }
                    if (left[point] > 0 && (fewest < 0 || left[point] <= left[fewest])) {
                        fewest = point;
                    }
                }
                strikeOut(fewest);
            }
            return 0;
        }

        private void strikeOut(int point) {
            if (!isBelow(point, POINTS)) {
                return;
            }
            for (int off = 1; off <= 4; off++) {
                int right = point + off & 7;
                int nearest = left[right] > 0 ? right : point - off & 7;
                if (left[nearest] > 0) {
                    left[nearest] += left[point];
                    left[point] = 0;
                    return;
                }
            }
        }
    }

    /** Goes through sets of COCKS, each of which says one POINT without the set and another in it. */
    private static final class Search {
        static final int SETS = 1 << COCKS;

        private final Ballot ballot;
        final int[] from = new int[COCKS];
        final int[] to = new int[COCKS];
        final int[] price = new int[COCKS];
        private final int[] free = new int[COCKS];
        private int frees = 0;
        boolean found = false;
        int cost = 0;
        private int set = 0;

        Search(Ballot ballot) {
            this.ballot = ballot;
        }

        void startFrom(Valley valley) {
            System.arraycopy(valley.said, 0, from, 0, COCKS);
        }

        /** As when what was found has been done. */
        void startFromFound(Valley valley) {
            for (int cock = 0; cock < valley.cocks && cock < COCKS; cock++) {
                if ((set >> cock & 1) != 0) {
                    from[cock] = to[cock];
                }
            }
        }

        void bendTo(Valley valley, int point) {
            for (int cock = 0; cock < valley.cocks && cock < COCKS; cock++) {
                to[cock] = point;
                price[cock] = bendingCost(valley.rust[cock], from[cock], point);
            }
        }

        void bendEachForOne(Valley valley, int point) {
            for (int cock = 0; cock < valley.cocks && cock < COCKS; cock++) {
                to[cock] = point;
                price[cock] = 1;
            }
        }

        int told(int what) {
            return !found ? IMPOSSIBLE : what == 0 ? cost : set;
        }

        /** The cheapest set of allowed COCKS (of several the fewest, then the least) for which this POINT wins. */
        void run(Valley valley, int way, int point, int allowed) {
            listFree(valley, allowed);
            ballot.open(valley, from);
            found = false;
            cost = 0;
            set = 0;
            int best = 0;
            int sum = 0;
            for (int chosen = 0; chosen < 1 << frees && chosen < SETS; chosen++) {
                sum += flip(chosen);
                boolean better = !found || sum < cost
                        || sum == cost && Integer.bitCount(chosen) < Integer.bitCount(best);
                if (better && ballot.winner(way) == point) {
                    found = true;
                    cost = sum;
                    best = chosen;
                }
                if (found && best == 0) {
                    break;
                }
            }
            set = cocksOf(best);
        }

        int unlikeCases(Valley valley, int way, int cock, int one, int other) {
            frees = 0;
            for (int each = 0; each < valley.cocks && each < COCKS; each++) {
                from[each] = one;
                to[each] = other;
                if (each != cock) {
                    addFree(each);
                }
            }
            ballot.open(valley, from);
            int unlike = 0;
            for (int chosen = 0; chosen < 1 << frees && chosen < SETS; chosen++) {
                flip(chosen);
                ballot.put(cock, one);
                int first = ballot.winner(way);
                ballot.put(cock, other);
                if (ballot.winner(way) != first) {
                    unlike++;
                }
            }
            return unlike;
        }

        /** COCKS that change nothing are never in the best set, as it is as good and has fewer without them. */
        private void listFree(Valley valley, int allowed) {
            frees = 0;
            for (int cock = 0; cock < valley.cocks && cock < COCKS; cock++) {
                if ((allowed >> cock & 1) != 0 && from[cock] != to[cock]) {
                    addFree(cock);
                }
            }
        }

        private void addFree(int cock) {
            if (isBelow(frees, COCKS)) {
                free[frees] = cock;
                frees++;
            }
        }

        /** From the choice ahead of this one to it: by how much it is dearer. */
        private int flip(int chosen) {
            int changed = chosen == 0 ? 0 : chosen ^ chosen - 1;
            int dearer = 0;
            for (int i = 0; i < frees && i < COCKS && changed >> i != 0; i++) {
                int cock = free[i];
                boolean taken = (chosen >> i & 1) != 0;
                if (isBelow(cock, COCKS)) {
                    ballot.put(cock, taken ? to[cock] : from[cock]);
                    dearer += taken ? price[cock] : -price[cock];
                }
            }
            return dearer;
        }

        private int cocksOf(int chosen) {
            int cocks = 0;
            for (int i = 0; i < frees && i < COCKS; i++) {
                if ((chosen >> i & 1) != 0) {
                    cocks |= 1 << free[i];
                }
            }
            return cocks;
        }
    }

    /** Days one behind another, each with a WIND that is drawn; the VALLEY itself stays as it is. */
    private static final class Almanac {
        private final Valley place;
        private final Weather weather;
        private final Ballot ballot;
        private final int[] points = new int[COCKS];
        /** What a day makes of a COCK, a POINT and a WIND, once it has been asked; else below 0. */
        private final int[] evenings = new int[COCKS * POINTS * POINTS];
        private Law rule = null;
        private int hours = 0;
        private int drawn = 0;
        int wind = 0;

        Almanac(Valley place, Weather weather, Ballot ballot) {
            this.place = place;
            this.weather = weather;
            this.ballot = ballot;
        }

        void open(Law law, int hoursOfDay) {
            rule = law;
            hours = hoursOfDay;
            drawn = place.drawn;
            System.arraycopy(place.said, 0, points, 0, COCKS);
            for (int i = 0; i < COCKS * POINTS * POINTS; i++) {
                evenings[i] = -1;
            }
        }

        int voteOfNextDay(int way) {
            drawn = nextDrawn(drawn);
            wind = drawn / 65536 % POINTS;
            for (int cock = 0; cock < place.cocks && cock < COCKS; cock++) {
                points[cock] = evening(cock, points[cock] & 7);
            }
            ballot.open(place, points);
            return ballot.winner(way);
        }

        private int evening(int cock, int point) {
            int asked = (cock * POINTS + point) * POINTS + (wind & 7);
            if (asked < 0 || asked >= evenings.length) {
                return point;
            }
            if (evenings[asked] < 0) {
                weather.stand(place, cock, wind, place.felledTrees);
                evenings[asked] = weather.turned(rule, point, hours);
            }
            return evenings[asked];
        }
    }
}
