/** Each promise of the document by cases worked out by hand: ordinary ones, edges, wrong inputs. */
public final class Promises {
    private static int wrong = 0;
    private static int promise = 0;

    private static final String FIVE = "cock 5 5 0 10 0 2;cock 2 2 3 50 1 2;cock 7 7 1 30 0 4;cock 0 0 9 90 2 4;"
            + "cock 9 9 2 20 3 6;tree 5 4;tree 5 3;tree 8 6;worth 0 2 9;worth 1 4 50;worth 0 4 1;worth 0 6 20";
    private static final String SLOW = "turn 1 if rust < 5 and lee = 0;turn 4 if rust = 9";

    private static void due(String call, int got, int want) {
        if (got != want) {
            wrong++;
            System.out.println("promise " + promise + ": " + call + " answered " + got + ", due is " + want);
        }
    }

    private static void due(String call, boolean got, boolean want) {
        due(call, got ? 1 : 0, want ? 1 : 0);
    }

    private static void tell(MostCocks x, String text) {
        for (int fed = 0; fed < text.length(); fed += 20) {
            int[] n = new int[5];
            for (int i = 0; i < 20; i++) {
                n[i / 4] = n[i / 4] << 8 | (fed + i < text.length() ? text.charAt(fed + i) : 0);
            }
            x.feed(n[0], n[1], n[2], n[3], n[4]);
        }
        due("end of '" + text + "'", x.end(text.length()), text.length());
    }

    private static int valley(MostCocks x, String text) {
        tell(x, text);
        return x.valley();
    }

    private static int law(MostCocks x, String text) {
        tell(x, text);
        return x.law();
    }

    private static MostCocks five() {
        MostCocks x = new MostCocks();
        due("valley", valley(x, FIVE), 5);
        due("law 0", law(x, SLOW), 0);
        due("law 1", law(x, "turn off"), 1);
        return x;
    }

    /** COCKS without RUST that say these; their AGES; OWNER 0. */
    private static MostCocks saying(int[] points, int... ages) {
        StringBuilder text = new StringBuilder();
        for (int i = 0; i < points.length; i++) {
            text.append(i == 0 ? "" : ";").append("cock 0 0 0 ").append(i < ages.length ? ages[i] : 0).append(" 0 ").append(points[i]);
        }
        MostCocks x = new MostCocks();
        due("valley", valley(x, text.toString()), points.length);
        return x;
    }

    private static int[] row(int... points) {
        return points;
    }

    private static void faultOfValley(String text, int place, int what) {
        MostCocks x = five();
        x.bend(0, 7);
        due("valley '" + text + "'", valley(x, text), -2 - (1 + 8 * place + what));
        due("bytes behind the fault of '" + text + "'", x.count(5), 0);
        due("cocks behind a fault", x.count(0), 5);
        due("what was bent behind a fault", x.cock(0, 5), 7);
        due("trees behind a fault", x.count(1), 3);
        due("worth behind a fault", x.worth(0, 6), 20);
    }

    private static void faultOfLaw(String text, int place, int what) {
        MostCocks x = new MostCocks();
        due("law '" + text + "'", law(x, text), -2 - (1 + 8 * place + what));
        due("laws behind a fault", x.count(2), 0);
        due("bytes behind a fault", x.count(5), 0);
    }

    /** A COCK (number 1) at 0 with RUST 2, AGE 42, OWNER 2 and one TREE ahead of it, n HOURS in WIND 3. */
    private static void turns(String text, int hours, int to) {
        MostCocks x = new MostCocks();
        due("valley", valley(x, "cock 0 9 0 0 0 3;cock 4 4 2 42 2 0;tree 6 6"), 2);
        due("law '" + text + "'", law(x, text), 0);
        x.blow(0, 3, hours);
        due("POINT by '" + text + "'", x.cock(1, 5), to);
    }

    private static void newObject() {
        promise = 1;
        MostCocks x = new MostCocks();
        due("NONE", MostCocks.NONE, -1);
        for (int what = 0; what < 7; what++) due("count " + what, x.count(what), 0);
        due("cock", x.cock(0, 0), -1);
        due("tree", x.tree(0, 0), -1);
        due("vote", x.vote(0), -1);
        due("back", x.back(0), -1);
        due("image without a valley", x.image(1), 0);
    }

    private static void feedAndEnd() {
        promise = 2;
        MostCocks x = new MostCocks();
        for (int i = 1; i <= 20; i++) due("feed", x.feed(0, 0, 0, 0, 0), 20 * i);
        due("feed beyond 400", x.feed(0, 0, 0, 0, 0), -1);
        due("bytes", x.count(5), 400);
        due("end", x.end(381), 381);
        due("feed with 381", x.feed(0, 0, 0, 0, 0), -1);
        due("end", x.end(380), 380);
        due("feed with 380", x.feed(0, 0, 0, 0, 0), 400);
        x.end(0);
        // "cock 1 2 3 4 1 6 " with the highest byte first, and then 255, which can't stand there
        due("feed", x.feed(0x636f636b, 0x20312032, 0x20332034, 0x20312036, 0x20ffffff), 20);
        due("valley with 255", x.valley(), -2 - (1 + 8 * 17));
        x.feed(0x636f636b, 0x20312032, 0x20332034, 0x20312036, 0x20ffffff);
        x.end(17);
        due("valley", x.valley(), 1);
        int[] told = {1, 2, 3, 4, 1, 6, 6};
        for (int what = 0; what < 7; what++) due("cock 0 " + what, x.cock(0, what), told[what]);
        promise = 3;
        x.feed(1, 2, 3, 4, 5);
        due("end -1", x.end(-1), -1);
        due("end 21", x.end(21), -1);
        due("bytes", x.count(5), 20);
        due("end 20", x.end(20), 20);
        due("end 3", x.end(3), 3);
        due("end 4", x.end(4), -1);
        due("end 0", x.end(0), 0);
        due("bytes", x.count(5), 0);
    }

    private static void valleys() {
        promise = 4;
        MostCocks x = five();
        due("bytes", x.count(5), 0);
        x.seed(77);
        x.fell(1, true);
        x.bend(0, 5);
        due("new valley", valley(x, "  cock1 2 00003 4 1 6 ;worth 3 7 5; worth 3 7 99;tree 9 9 "), 1);
        due("x", x.count(4), 77);
        due("felled", x.count(3), 0);
        due("trees", x.count(1), 1);
        due("worth told last", x.worth(3, 7), 99);
        due("worth of the old valley", x.worth(0, 6), 0);
        due("morning", x.cock(0, 6), 6);
        due("laws stay", x.count(2), 2);
        faultOfValley("", 0, 0);
        faultOfValley("   ", 3, 0);
        faultOfValley("cock", 4, 0);
        faultOfValley("cocks 0", 0, 0);
        faultOfValley("turn 1", 0, 0);
        faultOfValley("Cock 0 0 0 0 0 0", 0, 0);
        faultOfValley("cock 10 0 0 0 0 0", 5, 1);
        faultOfValley("cock 0 10 0 0 0 0", 7, 1);
        faultOfValley("cock 0 0 10 0 0 0", 9, 1);
        faultOfValley("cock 0 0 0 100 0 0", 11, 1);
        faultOfValley("cock 0 0 0 0 4 0", 13, 1);
        faultOfValley("cock 0 0 0 0 0 8", 15, 1);
        faultOfValley("cock 0 0 0 0 0 000007", 15, 1);
        faultOfValley("cock 0 0 0 0 0", 14, 0);
        faultOfValley("cock 0 0 0 0 0 0 0", 17, 0);
        faultOfValley("cock 0 0 0 0 0 0 tree 0 0", 17, 0);
        faultOfValley("cock 0 0 0 0 0 0;", 17, 0);
        faultOfValley("cock 0 0 0 0 0 0;;", 17, 0);
        faultOfValley("cock 0 0 x 0 0 0", 9, 0);
        faultOfValley("cock -1 0 0 0 0 0", 5, 0);
        faultOfValley("tree 0 10", 7, 1);
        faultOfValley("tree 0 0", 8, 0);
        faultOfValley("tree 0 0  ", 10, 0);
        faultOfValley("worth 4 0 1", 6, 1);
        faultOfValley("worth 0 8 1", 8, 1);
        faultOfValley("worth 0 0 100", 10, 1);
        faultOfValley("cock0 0 0 0 0 0;".repeat(12) + "cock 99", 192, 4);
        faultOfValley("tree0 0;".repeat(12) + "tree", 96, 4);
        due("12 cocks and 12 trees", valley(x, "cock0 0 0 0 0 0;".repeat(12) + "tree0 0;".repeat(11) + "tree0 0"), 12);
    }

    private static void laws() {
        promise = 5;
        faultOfLaw("", 0, 0);
        faultOfLaw("turn", 4, 0);
        faultOfLaw("turns 1", 0, 0);
        faultOfLaw("turn x", 5, 0);
        faultOfLaw("turn z", 5, 0);
        faultOfLaw("turn 1z", 6, 0);
        faultOfLaw("turn offz + 1", 5, 0);
        faultOfLaw("turn owners", 5, 0);
        faultOfLaw("turn -1", 5, 0);
        faultOfLaw("turn [1]", 5, 0);
        faultOfLaw("turn 1;", 7, 0);
        faultOfLaw("turn 1 1", 7, 0);
        faultOfLaw("turn 1 if", 9, 0);
        faultOfLaw("turn 1 if rust", 14, 0);
        faultOfLaw("turn 1 if rust;turn 2", 14, 0);
        faultOfLaw("turn 1 if off = 1]", 17, 0);
        faultOfLaw("turn 1 if [off = 1", 18, 0);
        faultOfLaw("turn 1 if off == 1", 15, 0);
        faultOfLaw("turn 1 if off < = 1", 16, 0);
        faultOfLaw("turn 1 if off = 1 = 1", 18, 0);
        faultOfLaw("turn 1 if not", 13, 0);
        faultOfLaw("turn 1 if off = 1 and", 21, 0);
        faultOfLaw("turn 1 + tree", 9, 0);
        faultOfLaw("turn 123456", 5, 1);
        faultOfLaw("turn 000001 x", 5, 1);
        faultOfLaw("turn 1 if " + "not ".repeat(11) + "1=1", 50, 2);
        faultOfLaw("turn 1 if [[[[[[[[[[[1=1", 20, 2);
        faultOfLaw("turn 1 if [[[[[not not not not not [1=1", 35, 2);
        faultOfLaw("turn 1" + "+1".repeat(60), 125, 3);
        faultOfLaw("turn 1" + "+1".repeat(59) + "+x", 125, 0);
        faultOfLaw("turn 1" + "+1".repeat(59) + "+123456", 125, 1);
        faultOfLaw("turn 1" + "+1".repeat(58) + " if 1=1", 127, 3);
        faultOfLaw("turn 1" + "+1".repeat(57) + " if 1=1", 126, 3);
        faultOfLaw("turn 1" + "+1".repeat(29) + ";turn 1" + "+1".repeat(30), 6 + 58 + 6 + 60, 3);
        faultOfLaw("turn 1;".repeat(12) + "turn 1", 84, 4);
        faultOfLaw("turn 1;".repeat(12) + "burn 1", 84, 0);
        MostCocks x = new MostCocks();
        due("law 0", law(x, " turn1 "), 0);
        due("law 1", law(x, "turn 1" + "+1".repeat(56) + " if 1=1"), 1);
        due("law 2", law(x, "turn 1 if " + "not ".repeat(10) + "1=1 and [not[1=1]or 2>1]"), 2);
        due("law 3", law(x, "turn 1;".repeat(11) + "turn 1"), 3);
        due("law 4", law(x, "turn 1if[[[[[[[[[[1=1]]]]]]]]]]and[[1<=2]]"), 4);
        due("a fault", law(x, "turn"), -35);
        due("law 5", law(x, "turn cock+rust+age+owner+at+off+wind+lee+hour"), 5);
        due("law 6", law(x, "turn 1"), -1);
        due("bytes stay", x.count(5), 6);
        due("laws", x.count(2), 6);
    }

    private static void whatIsThere() {
        promise = 6;
        MostCocks x = five();
        int[] third = {0, 0, 9, 90, 2, 4, 4};
        for (int what = 0; what < 7; what++) due("cock 3 " + what, x.cock(3, what), third[what]);
        x.bend(3, 1);
        due("says", x.cock(3, 5), 1);
        due("said in the morning", x.cock(3, 6), 4);
        due("cock 5", x.cock(5, 0), -1);
        due("cock -1", x.cock(-1, 0), -1);
        due("what 7", x.cock(0, 7), -1);
        due("what -1", x.cock(0, -1), -1);
        promise = 7;
        due("tree", x.tree(2, 0), 8);
        due("tree", x.tree(2, 1), 6);
        due("tree", x.tree(2, 2), 0);
        x.fell(2, true);
        due("tree", x.tree(2, 2), 1);
        due("tree 3", x.tree(3, 0), -1);
        due("tree -1", x.tree(-1, 0), -1);
        due("what 3", x.tree(0, 3), -1);
        due("what -1", x.tree(0, -1), -1);
        promise = 8;
        due("worth", x.worth(1, 4), 50);
        due("worth", x.worth(3, 0), 0);
        due("owner 4", x.worth(4, 0), -1);
        due("owner -1", x.worth(-1, 0), -1);
        due("point 8", x.worth(0, 8), -1);
        due("point -1", x.worth(0, -1), -1);
        due("no valley", new MostCocks().worth(0, 0), -1);
        promise = 9;
        due("two trees", x.lee(0, 0), 2);
        due("none", x.lee(0, 2), 0);
        due("a felled one", x.lee(2, 1), 0);
        x.fell(2, false);
        due("one that stands again", x.lee(2, 1), 1);
        due("cock 5", x.lee(5, 0), -1);
        due("cock -1", x.lee(-1, 0), -1);
        due("wind 8", x.lee(0, 8), -1);
        due("wind -1", x.lee(0, -1), -1);
        MostCocks y = new MostCocks();
        valley(y, "cock 4 4 0 0 0 0;tree 4 4;tree 6 6;tree 6 6;tree 7 7;tree 8 8;tree 5 6;tree 3 5;tree 1 1;tree 2 4");
        int[] lees = {0, 0, 0, 3, 0, 1, 1, 1};
        for (int wind = 0; wind < 8; wind++) due("lee in " + wind, y.lee(0, wind), lees[wind]);
    }

    private static void hours() {
        promise = 10;
        MostCocks x = five();
        due("blow", x.blow(0, 0, 1), 4);
        int[] then = {2, 1, 5, 0, 7};
        for (int cock = 0; cock < 5; cock++) due("cock " + cock, x.cock(cock, 5), then[cock]);
        due("morning stays", x.cock(1, 6), 2);
        due("law 2", x.blow(2, 0, 1), -1);
        due("law -1", x.blow(-1, 0, 1), -1);
        due("wind 8", x.blow(0, 8, 1), -1);
        due("wind -1", x.blow(0, -1, 1), -1);
        due("no hours", x.blow(0, 0, 0), -1);
        due("25 hours", x.blow(0, 0, 25), -1);
        due("24 hours", x.blow(1, 1, 24), 4);
        MostCocks empty = new MostCocks();
        law(empty, "turn 1");
        due("no valley", empty.blow(0, 0, 1), -1);
        turns("turn rust", 1, 2);
        turns("turn age - 40", 1, 2);
        turns("turn owner", 1, 2);
        turns("turn cock", 1, 1);
        turns("turn lee", 1, 1);
        turns("turn lee", 2, 2);
        turns("turn off - 1", 1, 2);
        turns("turn wind - 1", 1, 2);
        turns("turn at", 1, 0);
        turns("turn 1 if at = 0", 3, 1);
        turns("turn hour", 1, 0);
        turns("turn hour", 2, 1);
        turns("turn hour", 3, 3);
        turns("turn 99999", 1, 3);
        turns("turn 1 - 2", 1, 0);
        turns("turn 1 + 2 * 3 - 5", 1, 2);
        turns("turn 7 / 2 - 1", 1, 2);
        turns("turn 8 / 2 / 2", 1, 2);
        turns("turn 5 - 2 - 1", 1, 2);
        turns("turn 5 / 0 + 1", 1, 1);
        turns("turn 2 if 99999*99999*99999*9224 < 0;turn 1", 1, 2);
        turns("turn 2 if 1 > 2", 1, 0);
        turns("turn 2 if 1 >= 2;turn 1", 1, 1);
        turns("turn 2 if 2 >= 2;turn 1", 1, 2);
        turns("turn 2 if 2 <= 2;turn 1", 1, 2);
        turns("turn 2 if 2 < 2;turn 1", 1, 1);
        turns("turn 2 if not 2 < 2;turn 1", 1, 2);
        turns("turn 1 if not 1 = 2;turn 2", 1, 1);
        turns("turn 2 if 2 > 2;turn 1", 1, 1);
        turns("turn 2 if 3 > 2;turn 1", 1, 2);
        turns("turn 2 if 1=1 or 1=1 and 1=2;turn 1", 1, 2);
        turns("turn 2 if [1=1 or 1=1] and 1=2;turn 1", 1, 1);
        turns("turn 2 if not 1=2 and 1=2;turn 1", 1, 1);
        turns("turn 2 if not [1=2 and 1=2];turn 1", 1, 2);
        MostCocks y = saying(row(0, 1, 2, 3, 4, 5, 6, 7));
        law(y, "turn 1");
        due("blow", y.blow(0, 4, 1), 7);
        int[] nearer = {1, 2, 3, 4, 4, 4, 5, 6};
        for (int cock = 0; cock < 8; cock++) due("cock " + cock, y.cock(cock, 5), nearer[cock]);
    }

    private static void hands() {
        promise = 11;
        MostCocks x = five();
        due("bend", x.bend(2, 7), 6);
        due("says", x.cock(2, 5), 7);
        due("bend the other way", x.bend(2, 1), 4);
        due("bend to what it says", x.bend(2, 1), 0);
        due("bend half round", x.bend(3, 0), 40);
        due("cock 5", x.bend(5, 0), -1);
        due("cock -1", x.bend(-1, 0), -1);
        due("point 8", x.bend(0, 8), -1);
        due("point -1", x.bend(0, -1), -1);
        due("nothing happened", x.cock(0, 5), 2);
        promise = 12;
        due("oil", x.oil(3), 9);
        due("rust", x.cock(3, 2), 0);
        due("oil again", x.oil(3), 0);
        due("cock 5", x.oil(5), -1);
        due("cock -1", x.oil(-1), -1);
        promise = 13;
        due("rusts", x.rusts(1, 9), 3);
        due("rust", x.cock(1, 2), 9);
        due("10", x.rusts(1, 10), -1);
        due("-1", x.rusts(1, -1), -1);
        due("rusts", x.rusts(1, 0), 9);
        due("cock 5", x.rusts(5, 0), -1);
        due("cock -1", x.rusts(-1, 0), -1);
        promise = 14;
        due("stands", x.fell(1, false), false);
        due("fell", x.fell(1, true), true);
        due("is felled", x.fell(1, true), false);
        due("felled", x.count(3), 1);
        due("stand again", x.fell(1, false), true);
        due("tree 3", x.fell(3, true), false);
        due("tree -1", x.fell(-1, true), false);
        due("felled", x.count(3), 0);
        promise = 15;
        x = five();
        x.bend(0, 3);
        x.bend(1, 3);
        x.bend(1, 2);
        due("morning", x.morning(), 1);
        due("kept", x.cock(0, 6), 3);
        due("morning", x.morning(), 0);
        due("no valley", new MostCocks().morning(), 0);
    }

    private static void votes() {
        promise = 16;
        for (int way = 0; way < 4; way++) due("vote " + way, five().vote(way), 4);
        due("way 4", five().vote(4), -1);
        due("way -1", five().vote(-1), -1);
        due("no valley", new MostCocks().vote(0), -1);
        due("one cock", saying(row(7)).vote(3), 7);
        due("most", saying(row(0, 3, 3), 1, 0, 0).vote(0), 3);
        due("weighed, alike, the oldest", saying(row(3, 3, 0), 0, 0, 1).vote(1), 0);
        due("weighed", saying(row(3, 3, 0), 0, 1, 1).vote(1), 3);
        due("most, alike, of one age", saying(row(6, 2, 2, 6), 5, 5, 5, 5).vote(0), 6);
        due("most, alike, of one age", saying(row(6, 2), 5, 5).vote(0), 6);
        due("most, alike, not the oldest of all", saying(row(1, 2, 2, 6, 6), 99, 5, 5, 5, 6).vote(0), 6);
        due("middle of four", saying(row(7, 0, 3, 5)).vote(2), 3);
        due("middle of three", saying(row(7, 0, 3)).vote(2), 3);
        due("middle of two", saying(row(7, 1)).vote(2), 1);
        due("struck out, the greatest of several", saying(row(0, 0, 4, 4)).vote(3), 0);
        due("struck out, the nearest", saying(row(1, 3, 3, 5, 5)).vote(3), 3);
        due("struck out, to the right", saying(row(4, 2, 2, 6, 6)).vote(3), 6);
        due("struck out, rounds", saying(row(0, 1, 2, 3)).vote(3), 2);
        due("struck out, round the north", saying(row(7, 1, 1, 5, 5)).vote(3), 1);
        due("struck out, half is not enough", saying(row(6, 6, 1, 2)).vote(3), 1);
        due("struck out, half round", saying(row(1, 1, 5, 5)).vote(3), 1);
        due("struck out, north itself", saying(row(0, 3, 3, 5, 5)).vote(3), 3);
        promise = 17;
        due("says 2", five().says(2), 2);
        due("says 0", five().says(0), 0);
        due("point 8", five().says(8), -1);
        due("point -1", five().says(-1), -1);
        due("no valley", new MostCocks().says(0), -1);
    }

    private static void buying() {
        promise = 18;
        MostCocks x = five();
        due("cost", x.cheapest(0, 2, 0, 0), 4);
        due("set", x.cheapest(0, 2, 0, 1), 4);
        due("cost", x.cheapest(0, 2, 4, 0), 12);
        due("set", x.cheapest(0, 2, 4, 1), 16);
        due("cost", x.cheapest(0, 2, 20, 0), 20);
        due("set", x.cheapest(0, 2, 20, 1), 8);
        due("can't be bought", x.cheapest(0, 2, 28, 0), -2);
        due("can't be bought", x.cheapest(0, 2, 31, 1), -2);
        due("as it is", x.cheapest(0, 4, 31, 0), 0);
        due("forbidden, the first that is no COCK", x.cheapest(0, 2, 32, 0), -1);
        due("forbidden, no COCK among COCKS", x.cheapest(0, 2, 33, 1), -1);
        due("forbidden, no COCK, as it is", x.cheapest(0, 4, 2048, 0), -1);
        due("forbidden, the highest bit", x.cheapest(0, 2, Integer.MIN_VALUE, 0), -1);
        due("forbidden, all bits", x.cheapest(0, 2, -1, 0), -1);
        due("as it is", x.cheapest(0, 4, 0, 1), 0);
        due("weighed", x.cheapest(1, 2, 0, 1), 4);
        due("middle", x.cheapest(2, 2, 0, 1), 4);
        due("struck out", x.cheapest(3, 6, 0, 0), 4);
        due("struck out", x.cheapest(3, 6, 0, 1), 4);
        due("way 4", x.cheapest(4, 0, 0, 0), -1);
        due("way -1", x.cheapest(-1, 0, 0, 0), -1);
        due("point 8", x.cheapest(0, 8, 0, 0), -1);
        due("point -1", x.cheapest(0, -1, 0, 0), -1);
        due("what 2", x.cheapest(0, 2, 0, 2), -1);
        due("what -1", x.cheapest(0, 2, 0, -1), -1);
        due("no valley", new MostCocks().cheapest(0, 0, 0, 0), -1);
        due("nothing changed", x.vote(0), 4);
        due("of several the least", saying(row(0, 0, 0, 7), 0, 0, 0, 9).cheapest(0, 7, 0, 1), 1);
        // COCKS 0 and 1 together, or 3 alone, cost 2
        due("of several the fewest", saying(row(1, 7, 4, 2), 4, 4, 7, 8).cheapest(1, 0, 0, 1), 8);
        due("of several the fewest", saying(row(1, 7, 4, 2), 4, 4, 7, 8).cheapest(1, 0, 8, 1), 3);
        promise = 19;
        due("cost", x.answer(0, 2, 0, 4, 0, 0), 2);
        due("set", x.answer(0, 2, 0, 4, 0, 1), 1);
        due("set, another one forbidden", x.answer(0, 2, 0, 4, 1, 1), 4);
        due("the first can't", x.answer(0, 2, 28, 4, 0, 0), -2);
        due("the other can't", x.answer(0, 2, 0, 4, 31, 0), -2);
        due("forbidden to the first, no COCK", x.answer(0, 2, 32, 4, 0, 0), -1);
        due("forbidden to the first, all bits", x.answer(0, 2, -1, 4, 0, 0), -1);
        due("forbidden to the other, no COCK", x.answer(0, 2, 0, 4, 32, 0), -1);
        due("forbidden to the other, the highest bit", x.answer(0, 2, 0, 4, Integer.MIN_VALUE, 0), -1);
        due("forbidden to the other, the first can't", x.answer(0, 2, 28, 4, 32, 0), -1);
        due("the same", x.answer(0, 2, 0, 2, 0, 0), 0);
        due("way 4", x.answer(4, 2, 0, 4, 0, 0), -1);
        due("point 8", x.answer(0, 8, 0, 4, 0, 0), -1);
        due("point -1", x.answer(0, -1, 0, 4, 0, 0), -1);
        due("other 8", x.answer(0, 2, 0, 8, 0, 0), -1);
        due("other -1", x.answer(0, 2, 0, -1, 0, 0), -1);
        due("what 2", x.answer(0, 2, 0, 4, 0, 2), -1);
        due("what -1", x.answer(0, 2, 0, 4, 0, -1), -1);
        due("no valley", new MostCocks().answer(0, 0, 0, 0, 0, 0), -1);
        due("nothing changed", x.cock(2, 5), 4);
        promise = 20;
        due("by none", x.bought(0, 0), 16);
        due("by one", x.bought(0, 1), 84);
        due("by all", x.bought(0, 12), 255);
        due("13", x.bought(0, 13), -1);
        due("-1", x.bought(0, -1), -1);
        due("way 4", x.bought(4, 1), -1);
        due("way -1", x.bought(-1, 1), -1);
        due("no valley", new MostCocks().bought(0, 1), -1);
        promise = 21;
        due("most", x.swings(0, 0, 2, 5), 6);
        due("weighed", x.swings(1, 3, 2, 5), 12);
        due("alike", x.swings(0, 0, 2, 2), -1);
        due("cock 5", x.swings(0, 5, 2, 3), -1);
        due("cock -1", x.swings(0, -1, 2, 3), -1);
        due("way 4", x.swings(4, 0, 2, 3), -1);
        due("point 8", x.swings(0, 0, 8, 3), -1);
        due("point -1", x.swings(0, 0, -1, 3), -1);
        due("other 8", x.swings(0, 0, 2, 8), -1);
        due("other -1", x.swings(0, 0, 2, -1), -1);
        due("no valley", new MostCocks().swings(0, 0, 0, 1), -1);
        due("alone", saying(row(0)).swings(2, 0, 1, 2), 1);
        due("most of two, the oldest", saying(row(0, 0), 3, 4).swings(0, 1, 1, 2), 2);
        due("most of two, the younger", saying(row(0, 0), 3, 4).swings(0, 0, 1, 2), 0);
        due("nothing changed", x.cock(2, 5), 4);
    }

    private static void winds() {
        promise = 22;
        MostCocks x = five();
        due("by no hour, as it was", x.explained(0, 0, 0), 255);
        due("by a law", x.explained(0, 1, 1), 1 << 2);
        x.blow(0, 0, 1);
        due("turned to the left", x.explained(0, 1, 1), 131);
        due("by no hour, not as it was", x.explained(0, 0, 1), 0);
        due("law 2", x.explained(2, 1, 1), -1);
        due("law -1", x.explained(-1, 1, 1), -1);
        due("25 hours", x.explained(0, 25, 1), -1);
        due("-1 hours", x.explained(0, -1, 1), -1);
        due("cock 5", x.explained(0, 1, 5), -1);
        due("cock -1", x.explained(0, 1, -1), -1);
        promise = 23;
        x = five();
        x.blow(1, 3, 1);
        due("wind", x.trueWind(1, 1, 0), 3);
        due("explains", x.trueWind(1, 1, 1), 5);
        due("not", x.trueWind(1, 1, 2), 0);
        x.bend(0, 5);
        due("wind", x.trueWind(1, 1, 0), 3);
        due("explains", x.trueWind(1, 1, 1), 4);
        due("not", x.trueWind(1, 1, 2), 1);
        due("of several the least", x.trueWind(1, 0, 0), 0);
        due("none explained", x.trueWind(1, 0, 1), 0);
        due("none explained", x.trueWind(1, 0, 2), 31);
        due("law 2", x.trueWind(2, 1, 0), -1);
        due("25 hours", x.trueWind(1, 25, 0), -1);
        due("-1 hours", x.trueWind(1, -1, 0), -1);
        due("what 3", x.trueWind(1, 1, 3), -1);
        due("what -1", x.trueWind(1, 1, -1), -1);
        due("nothing changed", x.cock(0, 6), 2);
        promise = 24;
        x = five();
        due("vote in no hour", x.after(1, 7, 0, 0, 0), 4);
        due("wrong in no hour", x.after(1, 7, 0, 0, 1), 3);
        due("vote in an hour", x.after(1, 7, 1, 0, 0), 7);
        due("wrong in an hour", x.after(1, 7, 1, 0, 1), 0);
        due("law 2", x.after(2, 7, 1, 0, 0), -1);
        due("wind 8", x.after(1, 8, 1, 0, 0), -1);
        due("wind -1", x.after(1, -1, 1, 0, 0), -1);
        due("25 hours", x.after(1, 7, 25, 0, 0), -1);
        due("-1 hours", x.after(1, 7, -1, 0, 0), -1);
        due("way 4", x.after(1, 7, 1, 4, 0), -1);
        due("what 2", x.after(1, 7, 1, 0, 2), -1);
        due("what -1", x.after(1, 7, 1, 0, -1), -1);
        due("nothing changed", x.cock(0, 5), 2);
    }

    private static void treesAndOil() {
        promise = 25;
        MostCocks x = new MostCocks();
        law(x, "turn off if lee = 0");
        due("no valley", x.felled(0, 0, 1, 0), -1);
        valley(x, "cock 5 5 0 1 0 2;tree 1 1;tree 5 4;tree 5 6;tree 5 7");
        due("a tree", x.felled(0, 0, 1, 0), 1);
        due("none would do", x.felled(0, 4, 1, 0), -2);
        due("none would do in no hour", x.felled(0, 0, 0, 0), -2);
        due("so as it is", x.felled(0, 2, 1, 0), -3);
        due("so as it is", x.felled(0, 2, 0, 0), -3);
        due("still standing", x.count(3), 0);
        x.fell(2, true);
        due("the other one", x.felled(0, 4, 1, 0), 3);
        due("law 1", x.felled(1, 0, 1, 0), -1);
        due("wind 8", x.felled(0, 8, 1, 0), -1);
        due("wind -1", x.felled(0, -1, 1, 0), -1);
        due("25 hours", x.felled(0, 0, 25, 0), -1);
        due("-1 hours", x.felled(0, 0, -1, 0), -1);
        due("way 4", x.felled(0, 0, 1, 4), -1);
        due("way -1", x.felled(0, 0, 1, -1), -1);
        promise = 26;
        x = new MostCocks();
        law(x, "turn off if rust = 0");
        due("no valley", x.oiled(0, 0, 1, 0, 0), -1);
        valley(x, "cock 0 0 3 0 0 2;cock 0 0 1 0 0 2;cock 0 0 0 0 0 4");
        due("cost", x.oiled(0, 0, 1, 0, 0), 1);
        due("set", x.oiled(0, 0, 1, 0, 1), 2);
        due("none would do", x.oiled(0, 0, 0, 0, 0), -2);
        due("as it is", x.oiled(0, 2, 1, 0, 0), 0);
        due("as it is", x.oiled(0, 2, 1, 0, 1), 0);
        due("still rusty", x.cock(1, 2), 1);
        x.rusts(1, 3);
        due("of several the least", x.oiled(0, 0, 1, 0, 1), 1);
        due("law 1", x.oiled(1, 0, 1, 0, 0), -1);
        due("wind 8", x.oiled(0, 8, 1, 0, 0), -1);
        due("25 hours", x.oiled(0, 0, 25, 0, 0), -1);
        due("-1 hours", x.oiled(0, 0, -1, 0, 0), -1);
        due("way 4", x.oiled(0, 0, 1, 4, 0), -1);
        due("what 2", x.oiled(0, 0, 1, 0, 2), -1);
        due("what -1", x.oiled(0, 0, 1, 0, -1), -1);
        promise = 27;
        x = five();
        due("enough coins", x.bestPoint(0, 0, 8, 0), 6);
        due("enough coins", x.bestPoint(0, 0, 8, 1), 12);
        due("too few coins", x.bestPoint(0, 0, 7, 0), 2);
        due("too few coins", x.bestPoint(0, 0, 7, 1), 5);
        due("as it is", x.bestPoint(0, 0, 3, 0), 4);
        due("as it is", x.bestPoint(0, 0, 3, 1), 1);
        due("as it is", x.bestPoint(0, 1, 9999, 1), 50);
        due("no coins", x.bestPoint(0, 0, 0, 1), 1);
        MostCocks even = new MostCocks();
        valley(even, "cock 0 0 0 0 0 4;worth 0 3 8;worth 0 5 8;worth 0 4 7");
        due("of several the least", even.bestPoint(0, 0, 99, 0), 3);
        due("owner without worth", x.bestPoint(0, 3, 9999, 0), 4);
        due("owner without worth", x.bestPoint(0, 3, 9999, 1), 0);
        due("coins 10000", x.bestPoint(0, 0, 10000, 0), -1);
        due("coins -1", x.bestPoint(0, 0, -1, 0), -1);
        due("owner 4", x.bestPoint(0, 4, 1, 0), -1);
        due("owner -1", x.bestPoint(0, -1, 1, 0), -1);
        due("way 4", x.bestPoint(4, 0, 1, 0), -1);
        due("what 2", x.bestPoint(0, 0, 1, 2), -1);
        due("what -1", x.bestPoint(0, 0, 1, -1), -1);
        due("no valley", new MostCocks().bestPoint(0, 0, 1, 0), -1);
    }

    private static void draws() {
        promise = 28;
        MostCocks x = five();
        due("seed", x.seed(1), 0);
        due("seed -1", x.seed(-1), -1);
        due("x", x.count(4), 1);
        due("seed", x.seed(2147483647), 1);
        due("seed", x.seed(1), 2147483647);
        due("seed", x.seed(0), 1);
        due("seed", x.seed(1), 0);
        promise = 29;
        // the DRAWS from 1 on: 16838, 5758, 10113, 17515, 31051; of 5 COCKS the 3, 3, 3, 0, 1
        int[] said = {4, 4, 4, 2, 2};
        int[] drawn = {1103527590, 377401575, 662824084, 1147902781, 2035015474};
        for (int i = 0; i < 5; i++) {
            due("lot", x.lot(), said[i]);
            due("x", x.count(4), drawn[i]);
        }
        MostCocks empty = new MostCocks();
        empty.seed(5);
        due("no valley", empty.lot(), -1);
        due("x stays", empty.count(4), 5);
        promise = 30;
        x = five();
        // WINDS from x = 0 on: 0 4 4 5 2 7 5 5
        due("a point", x.years(1, 8, 1, 0, 5, 0), 3);
        due("the wind", x.years(1, 8, 1, 3, 7, 1), 8);
        due("gain", x.years(1, 8, 1, 2, 0, 2), 11);
        due("x as it was", x.count(4), 0);
        due("nothing stays", x.cock(0, 5), 2);
        due("told 8", x.years(1, 8, 1, 0, 8, 0), -1);
        due("told 8", x.years(1, 8, 1, 0, 8, 1), -1);
        due("told -1", x.years(1, 8, 1, 0, -1, 1), -1);
        due("told 4 of owners", x.years(1, 8, 1, 0, 4, 2), -1);
        due("law 2", x.years(2, 8, 1, 0, 0, 0), -1);
        due("no days", x.years(1, 0, 1, 0, 0, 0), -1);
        due("367 days", x.years(1, 367, 1, 0, 0, 0), -1);
        due("366 days", x.years(1, 366, 24, 0, 0, 1), 366);
        due("one day", x.years(1, 1, 1, 0, 0, 0), 1);
        due("no hours", x.years(1, 8, 0, 0, 0, 0), -1);
        due("25 hours", x.years(1, 8, 25, 0, 0, 0), -1);
        due("way 4", x.years(1, 8, 1, 4, 0, 0), -1);
        due("what 3", x.years(1, 8, 1, 0, 0, 3), -1);
        due("what -1", x.years(1, 8, 1, 0, 0, -1), -1);
        MostCocks y = saying(row(0));
        law(y, "turn 1");
        law(y, "turn hour");
        due("day behind day: 0 1 2 3", y.years(0, 4, 1, 0, 3, 0), 1);
        due("day behind day: 0 1 2 3", y.years(0, 4, 1, 0, 1, 0), 1);
        due("day behind day: 0 1 2 3", y.years(0, 4, 1, 0, 7, 1), 1);
        due("each day has its hour 0: 0 1 2", y.years(1, 3, 2, 0, 2, 0), 1);
    }

    private static void countsAndImages() {
        promise = 31;
        MostCocks x = five();
        x.fell(2, true);
        x.seed(9);
        x.feed(0, 0, 0, 0, 0);
        int[] counts = {5, 3, 2, 1, 9, 20, 200};
        for (int what = 0; what < 7; what++) due("count " + what, x.count(what), counts[what]);
        due("count 7", x.count(7), -1);
        due("count -1", x.count(-1), -1);
        promise = 32;
        due("image -1", x.image(-1), -1);
        due("image 4", x.image(4), -1);
        due("image 3", x.image(3), 5);
        due("image 0", new MostCocks().image(0), 0);
        promise = 33;
        due("back to none", x.back(0), -1);
        due("back -1", x.back(-1), -1);
        due("back 4", x.back(4), -1);
        x.end(0);
        x.bend(0, 7);
        x.morning();
        x.oil(3);
        x.fell(0, true);
        x.seed(10);
        due("image 1", x.image(1), 5);
        due("another valley", valley(x, "cock 1 1 1 1 1 1;worth 0 2 3"), 1);
        due("law 2", law(x, "turn 2"), 2);
        x.feed(0, 0, 0, 0, 0);
        due("back", x.back(3), 5);
        due("says", x.cock(0, 5), 2);
        due("morning", x.cock(0, 6), 2);
        due("rust", x.cock(3, 2), 9);
        due("tree", x.tree(0, 2), 0);
        due("tree", x.tree(2, 2), 1);
        due("worth", x.worth(0, 2), 9);
        due("x", x.count(4), 9);
        due("laws stay", x.count(2), 3);
        due("tape stays", x.count(5), 20);
        x.bend(0, 6);
        due("back again", x.back(3), 5);
        due("says", x.cock(0, 5), 2);
        due("back to the other", x.back(1), 5);
        due("says", x.cock(0, 5), 7);
        due("morning", x.cock(0, 6), 7);
        MostCocks y = new MostCocks();
        y.image(2);
        valley(y, FIVE);
        due("back to no valley", y.back(2), 0);
        due("no cocks", y.count(0), 0);
        due("no trees", y.tree(0, 0), -1);
        due("no vote", y.vote(0), -1);
    }

    /** Twelve COCKS and twelve TREES, as many as there may be, and laws as deep as they may be. */
    private static void fullHouse() {
        promise = 0;
        MostCocks x = new MostCocks();
        due("valley", valley(x, "cock0 5 9 1 3 4;".repeat(12) + "tree0 4;".repeat(11) + "tree0 4"), 12);
        due("law", law(x, "turn 1 if " + "[1=2 or ".repeat(10) + "1+2*3=7" + "]".repeat(10)), 0);
        due("law", law(x, "turn off if rust=0 or lee=11"), 1);
        due("lee", x.lee(11, 0), 12);
        due("blow", x.blow(0, 0, 1), 12);
        due("says", x.says(5), 12);
        due("morning", x.morning(), 12);
        due("age", x.count(6), 12);
        for (int way = 0; way < 4; way++) {
            due("vote", x.vote(way), 5);
            due("after", x.after(0, 1, 4, way, 0), 1);
            due("bought", x.bought(way, 12), 255);
            due("bought", x.bought(way, 4), 32);
            due("felled", x.felled(1, 0, 1, way), 0);
        }
        due("cost", x.cheapest(0, 6, 0, 0), 60);
        due("set", x.cheapest(0, 6, 0, 1), 63);
        due("half, the least number", x.cheapest(0, 6, 4032, 0), 60);
        due("half, the others", x.cheapest(0, 6, 63, 0), -2);
        due("all twelve forbidden", x.cheapest(0, 6, 4095, 0), -2);
        due("a thirteenth forbidden", x.cheapest(0, 6, 4096, 0), -1);
        due("a thirteenth forbidden to the other", x.answer(0, 6, 0, 5, 4096, 0), -1);
        due("answer", x.answer(0, 6, 0, 5, 0, 1), 1);
        due("swings", x.swings(0, 11, 2, 3), 420);
        due("explained", x.explained(0, 0, 11), 255);
        due("not explained", x.trueWind(0, 1, 2), 0);
        due("oiled", x.oiled(1, 0, 1, 2, 0), 54);
        due("oiled", x.oiled(1, 0, 1, 3, 1), 63);
        due("best point", x.bestPoint(0, 3, 9999, 0), 5);
        due("years", x.years(1, 366, 24, 1, 5, 0), 366);
        due("fell", x.fell(11, true), true);
        due("lee is 11", x.after(1, 0, 1, 0, 1), 0);
    }

    public static void main(String[] args) {
        newObject();
        feedAndEnd();
        valleys();
        laws();
        whatIsThere();
        hours();
        hands();
        votes();
        buying();
        winds();
        treesAndOil();
        draws();
        countsAndImages();
        fullHouse();
        System.out.println(wrong == 0 ? "Promises: all answers are as due" : "Promises: " + wrong + " answers are not as due");
        if (wrong != 0) System.exit(1);
    }
}
