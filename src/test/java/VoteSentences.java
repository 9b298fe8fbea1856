/** Sentences about VOTES and what they cost: promises 16 to 21 and 27. */
final class VoteSentences extends Bench {
    static void all() {
        most();
        weighed();
        middle();
        struckOut();
        voting();
        cheapest();
        cheapestOfSeveral();
        buying();
        answers();
        bought();
        swings();
        bestPoints();
    }

    private static void votes(int way, int want, int[] points, int... ages) {
        due("VOTE by " + way, saying(points, ages).vote(way), want);
    }

    private static void most() {
        term("A VOTE by a way: 0 MOST: the POINT that most COCKS say;");
        votes(0, 3, row(0, 3, 3), 99, 0, 0);
        votes(0, 7, row(7));
        votes(0, 7, row(0, 7, 7, 1, 2, 3, 4, 5, 6), 99);
        votes(0, 0, row(0, 7, 7, 0, 0), 0, 9, 9, 0, 0);
        term("of several that of the oldest COCK that says one of these");
        votes(0, 6, row(2, 2, 6, 6), 5, 5, 5, 6);
        votes(0, 2, row(2, 2, 6, 6), 5, 7, 5, 6);
        votes(0, 6, row(1, 2, 2, 6, 6), 99, 5, 5, 5, 6);
        votes(0, 1, row(7, 4, 1, 2), 1, 2, 4, 3);
        votes(0, 5, row(7, 5), 0, 1);
        term("(of one AGE the least number).");
        votes(0, 6, row(6, 2), 5, 5);
        votes(0, 2, row(2, 6), 5, 5);
        votes(0, 6, row(6, 2, 2, 6), 5, 5, 5, 5);
        votes(0, 2, row(6, 2, 2, 6), 4, 5, 5, 5);
        votes(0, 7, row(7, 6, 5, 4, 3, 2, 1, 0));
        votes(0, 3, row(0, 3, 3, 5, 5), 99, 1, 1, 1, 1);
    }

    private static void weighed() {
        term("1 WEIGHED: likewise, each COCK counting as much as its AGE and 1.");
        votes(1, 0, row(3, 3, 0), 4, 4, 10);
        votes(1, 3, row(3, 3, 0), 4, 4, 8);
        // each of AGE 0 counts 1, so three of them as much as one of AGE 2, who is the oldest
        votes(1, 5, row(3, 3, 3, 5), 0, 0, 0, 2);
        votes(1, 3, row(3, 3, 3, 5), 0, 0, 0, 1);
        votes(1, 3, row(3, 3, 5), 0, 0, 0);
        votes(1, 5, row(3, 3, 5, 1), 1, 1, 3, 0);
        // alike, but the oldest of all says another POINT
        votes(1, 2, row(1, 2, 2, 6, 6), 9, 8, 3, 7, 4);
        votes(1, 6, row(1, 2, 2, 6, 6), 9, 6, 5, 7, 4);
        votes(1, 6, row(6, 2), 4, 4);
        votes(1, 2, row(2, 6), 4, 4);
        votes(1, 7, row(7, 0, 0, 0, 0, 0, 0, 0, 0, 0, 0, 0), 99, 8, 8, 8, 8, 8, 8, 8, 8, 8, 8, 8);
        votes(1, 0, row(7, 0, 0, 0, 0, 0, 0, 0, 0, 0, 0, 0), 98, 8, 8, 8, 8, 8, 8, 8, 8, 8, 8, 9);
    }

    private static void middle() {
        term("2 MIDDLE: all POINTS they say as numbers in a row, from the least: that at place half of how many, "
                + "downwards (from 0 on), less 1 if how many is even.");
        votes(2, 7, row(7));
        votes(2, 1, row(7, 1));
        votes(2, 3, row(7, 0, 3));
        votes(2, 3, row(7, 0, 3, 5));
        votes(2, 5, row(7, 0, 6, 5, 1));
        votes(2, 2, row(7, 2, 6, 2, 1, 5));
        votes(2, 4, row(0, 0, 4, 7, 7, 7, 0), 99);
        votes(2, 5, row(7, 7, 7, 7, 7, 7, 5, 0, 0, 0, 0, 0));
        votes(2, 6, row(0, 0, 0, 0, 0, 6, 7, 7, 7, 7, 7));
    }

    private static void struckOut() {
        term("3 STRUCK OUT: as long as POINTS that are said are more than one and none has more than half of all COCKS,");
        votes(3, 7, row(7));
        votes(3, 4, row(4, 4, 4));
        votes(3, 5, row(5, 5, 5, 0, 1));
        // half is not more than half: 2 goes to 1, and then 6 is the greatest of two alike
        votes(3, 1, row(6, 6, 1, 2));
        term("the one with the fewest (of several the greatest) is struck out:");
        votes(3, 4, row(1, 1, 4, 4, 6));
        votes(3, 6, row(6, 6, 2, 2, 7, 3, 7));
        votes(3, 0, row(0, 0, 4, 4));
        votes(3, 1, row(2, 1));
        votes(3, 0, row(0, 7));
        votes(3, 1, row(1, 7));
        votes(3, 0, row(7, 0, 5));
        // seven are struck out: 6 to 7, 5 to 4, 2 to 3, 1 to 0, 4 to 3, 0 to 7, and then 7, five and five
        votes(3, 3, row(0, 1, 2, 3, 3, 4, 5, 6, 7, 7));
        // 3 goes to 2, then 1 to the right
        votes(3, 2, row(0, 1, 2, 3));
        term("whoever says it says the least OFF of those that are left and were said ahead of that");
        votes(3, 3, row(1, 3, 3, 6, 6));
        votes(3, 1, row(7, 1, 1, 4, 4));
        votes(3, 6, row(0, 3, 3, 6, 6));
        // 2 goes to 5 (3 OFF), not to 3 or 1, which none says
        votes(3, 5, row(2, 5, 5, 6, 6));
        // 7 goes to 0 and 3 to 4; then 4 is the greatest of two alike, and goes where it is 4 OFF
        votes(3, 0, row(0, 0, 7, 4, 4, 3));
        votes(3, 1, row(1, 1, 5, 5));
        // 5 was struck out ahead of 3: 3 goes to 0, not to 5
        votes(3, 0, row(0, 0, 0, 5, 7, 7, 7, 3));
        term("(of two as near the one to the right).");
        votes(3, 6, row(4, 2, 2, 6, 6));
        votes(3, 2, row(0, 2, 2, 6, 6));
        votes(3, 1, row(7, 1, 1, 5, 5));
        votes(3, 4, row(1, 4, 4, 6, 6));
    }

    private static void voting() {
        sentence(16, "The VOTE by a way;");
        // struck out: 5 goes to 4, 2 to 3, then 4 to 3
        MostCocks x = saying(row(0, 0, 0, 0, 2, 3, 3, 4, 4, 5), 0, 0, 0, 0, 0, 0, 0, 0, 0, 50);
        int[] due = {0, 5, 2, 3};
        for (int way = 0; way < 4; way++) due("VOTE by " + way, x.vote(way), due[way]);
        sentence(16, "NONE without these (no VALLEY).");
        for (int way : row(4, 5, Integer.MAX_VALUE, -1, Integer.MIN_VALUE)) due("VOTE by " + way, x.vote(way), NONE);
        for (int way = 0; way < 4; way++) due("no VALLEY", new MostCocks().vote(way), NONE);

        sentence(17, "How many COCKS say a POINT;");
        int[] says = {4, 0, 1, 2, 2, 1, 0, 0};
        for (int point = 0; point < 8; point++) due("say " + point, x.says(point), says[point]);
        x.bend(9, 0);
        due("one more", x.says(0), 5);
        due("one less", x.says(5), 0);
        due("all twelve", saying(row(5, 5, 5, 5, 5, 5, 5, 5, 5, 5, 5, 5)).says(5), 12);
        sentence(17, "NONE without it, or a VALLEY.");
        for (int point : row(8, Integer.MAX_VALUE, -1, Integer.MIN_VALUE)) due("say " + point, x.says(point), NONE);
        due("no VALLEY", new MostCocks().says(0), NONE);
    }

    private static void isCheapest(MostCocks x, int way, int point, int forbidden, int cost, int set) {
        String call = "cheapest by " + way + " for " + point + " without " + forbidden;
        due(call + ", cost", x.cheapest(way, point, forbidden, 0), cost);
        due(call + ", set", x.cheapest(way, point, forbidden, 1), set);
    }

    private static void cheapest() {
        // what it costs to bend the five: 2 POINTS of COCK 2 are 4, of 3 20; 4 POINTS of 0 4, of 4 12
        MostCocks x = five();
        term("CHEAPEST for a POINT by a way: of all sets of COCKS that are not FORBIDDEN (a told set), all of it BENT to that POINT");
        isCheapest(x, 0, 2, 0, 4, 4);
        isCheapest(x, 0, 2, 1 | 2, 4, 4);
        isCheapest(x, 0, 2, 4, 12, 16);
        isCheapest(x, 0, 2, 4 | 16, 20, 8);
        isCheapest(x, 0, 2, 4 | 8 | 16, -2, -2);
        isCheapest(x, 0, 6, 0, 8, 1 | 4);
        term("(those that say it cost nothing),");
        isCheapest(told("cock 0 0 9 0 0 2;cock 0 0 0 1 0 3"), 0, 2, 0, 1, 2);
        isCheapest(told("cock 0 0 9 0 0 2;cock 0 0 9 1 0 2"), 0, 2, 0, 0, 0);
        term("by which the VOTE is that POINT:");
        isCheapest(x, 0, 4, 0, 0, 0);
        isCheapest(x, 2, 6, 0, 8, 1 | 4);
        // 4 is struck out then, and goes to the right
        isCheapest(x, 3, 6, 0, 4, 4);
        isCheapest(x, 3, 6, 4, 20, 8);
        isCheapest(x, 3, 6, 4 | 8, 20, 1 | 2);
    }

    private static void cheapestOfSeveral() {
        term("the one with the least cost, of several the fewest COCKS, then the least as bits.");
        // by WEIGHED 20 are enough for COCK 3 alone, or for 1 and 2
        MostCocks x = five();
        isCheapest(x, 1, 6, 0, 20, 8);
        isCheapest(x, 1, 6, 8, 20, 2 | 4);
        isCheapest(saying(row(1, 7, 4, 2), 4, 4, 7, 8), 1, 0, 0, 2, 8);
        isCheapest(saying(row(1, 7, 4, 2), 4, 4, 7, 8), 1, 0, 8, 2, 1 | 2);
        // three without RUST cost 3, one of RUST 9 that is as heavy 10
        isCheapest(told("cock 0 0 9 5 0 1;cock 0 0 0 1 0 1;cock 0 0 0 1 0 1;cock 0 0 0 1 0 1;cock 0 0 0 2 0 0"), 1, 0, 0, 3, 2 | 4 | 8);
        // any of three
        MostCocks alike = saying(row(0, 0, 0, 7), 0, 0, 0, 9);
        isCheapest(alike, 0, 7, 0, 1, 1);
        isCheapest(alike, 0, 7, 1, 1, 2);
        isCheapest(alike, 0, 7, 1 | 2, 1, 4);
        // any two of the four others: the least as bits
        isCheapest(saying(row(0, 0, 0, 0, 7)), 0, 7, 0, 2, 1 | 2);
        isCheapest(saying(row(0, 0, 0, 0, 7)), 0, 7, 1, 2, 2 | 4);
        isCheapest(saying(row(0, 0, 0, 0, 7)), 0, 7, 2 | 8, 2, 1 | 4);
    }

    private static void buying() {
        sentence(18, "CHEAPEST what 0: cost, 1: the set;");
        MostCocks x = five();
        due("cost", x.cheapest(0, 6, 0, 0), 8);
        due("set", x.cheapest(0, 6, 0, 1), 5);
        due("no cost", x.cheapest(0, 4, 0, 0), 0);
        due("no set", x.cheapest(0, 4, 31, 1), 0);
        MostCocks twelve = told("cock0 5 9 1 3 5;".repeat(11) + "cock0 5 9 1 3 5");
        due("six of twelve, the first among them", twelve.cheapest(0, 6, 0, 0), 60);
        due("six of twelve, the first among them", twelve.cheapest(0, 6, 0, 1), 63);
        due("seven of twelve, as 5 is the least", twelve.cheapest(3, 6, 0, 0), 70);
        due("the last seven", twelve.cheapest(3, 6, 31, 1), 4095 - 31);
        sentence(18, "-2: it can't be bought;");
        due("cost", x.cheapest(0, 2, 28, 0), -2);
        due("set", x.cheapest(0, 2, 28, 1), -2);
        due("all FORBIDDEN", x.cheapest(0, 2, 31, 0), -2);
        due("the last six", twelve.cheapest(0, 6, 63, 0), -2);
        due("all twelve FORBIDDEN", twelve.cheapest(0, 6, 4095, 0), -2);
        sentence(18, "NONE without these (FORBIDDEN ones as bits).");
        for (int way : row(4, Integer.MAX_VALUE, -1, Integer.MIN_VALUE)) due("way " + way, x.cheapest(way, 4, 0, 0), NONE);
        for (int point : row(8, Integer.MAX_VALUE, -1, Integer.MIN_VALUE)) due("POINT " + point, x.cheapest(0, point, 0, 0), NONE);
        for (int what : row(2, 3, Integer.MAX_VALUE, -1, Integer.MIN_VALUE)) due("what " + what, x.cheapest(0, 4, 0, what), NONE);
        for (int set : row(32, 33, 63, 4096, 1 << 30, Integer.MAX_VALUE, -1, -32, Integer.MIN_VALUE)) {
            due("FORBIDDEN " + set, x.cheapest(0, 4, set, 0), NONE);
            due("FORBIDDEN " + set, x.cheapest(0, 2, set, 1), NONE);
        }
        due("FORBIDDEN 4096", twelve.cheapest(0, 5, 4096, 0), NONE);
        due("no VALLEY", new MostCocks().cheapest(0, 0, 0, 0), NONE);
    }

    private static void answers() {
        term("ANSWER: when that was done, CHEAPEST for another POINT from there.");
        MostCocks x = five();
        // COCK 2 says 2 then, as 0 and 1 do; 0 goes to 4 for 2, 2 back to it for 4
        due("cost", x.answer(0, 2, 0, 4, 0, 0), 2);
        due("set", x.answer(0, 2, 0, 4, 0, 1), 1);
        due("back, from where it is", x.answer(0, 2, 0, 4, 1, 0), 4);
        due("back, from where it is", x.answer(0, 2, 0, 4, 1, 1), 4);
        // COCKS 0 and 2 say 6 then
        due("when both were bent", x.answer(0, 6, 0, 2, 0, 0), 4);
        due("when both were bent", x.answer(0, 6, 0, 2, 0, 1), 1);
        MostCocks twelve = told("cock0 5 9 1 3 5;".repeat(11) + "cock0 5 9 1 3 5");
        due("the first back", twelve.answer(0, 6, 0, 5, 0, 1), 1);
        due("the sixth back, when the last seven were bent", twelve.answer(3, 6, 31, 5, 0, 1), 32);
        due("the last back", twelve.answer(3, 6, 31, 5, 2047, 1), 2048);
        due("the last back", twelve.answer(3, 6, 31, 5, 2047, 0), 10);
        due("for the same POINT nothing is to be done", x.answer(0, 2, 0, 2, 0, 0), 0);
        due("for the same POINT nothing is to be done", x.answer(0, 2, 0, 2, 31, 1), 0);
        due("where it is as it is, as CHEAPEST", x.answer(0, 4, 0, 2, 0, 0), 4);
        due("where it is as it is, as CHEAPEST", x.answer(0, 4, 31, 2, 4, 1), 16);
        sentence(19, "ANSWER what 0: cost, 1: the set;");
        // with COCK 2 FORBIDDEN to the first COCK 4 says 2; it goes from there to 4 for 6
        due("cost", x.answer(0, 2, 4, 4, 1, 0), 6);
        due("set", x.answer(0, 2, 4, 4, 1, 1), 16);
        sentence(19, "-2: the one or the other can't be bought;");
        due("the one", x.answer(0, 2, 28, 4, 0, 0), -2);
        due("the one", x.answer(0, 2, 28, 2, 0, 1), -2);
        due("the other", x.answer(0, 2, 0, 4, 31, 0), -2);
        due("the other", x.answer(0, 2, 0, 4, 31, 1), -2);
        due("neither", x.answer(0, 2, 28, 6, 31, 1), -2);
        sentence(19, "NONE without these (FORBIDDEN to the first one, to the other one).");
        for (int way : row(4, Integer.MAX_VALUE, -1, Integer.MIN_VALUE)) due("way " + way, x.answer(way, 2, 0, 4, 0, 0), NONE);
        for (int point : row(8, Integer.MAX_VALUE, -1, Integer.MIN_VALUE)) {
            due("POINT " + point, x.answer(0, point, 0, 4, 0, 0), NONE);
            due("other POINT " + point, x.answer(0, 2, 0, point, 0, 0), NONE);
            due("other POINT " + point + ", the one can't be bought", x.answer(0, 2, 28, point, 0, 0), NONE);
        }
        for (int what : row(2, Integer.MAX_VALUE, -1, Integer.MIN_VALUE)) {
            due("what " + what, x.answer(0, 2, 0, 4, 0, what), NONE);
            due("what " + what + ", the one can't be bought", x.answer(0, 2, 28, 4, 0, what), NONE);
        }
        for (int set : row(32, 33, 4096, 1 << 30, Integer.MAX_VALUE, -1, Integer.MIN_VALUE)) {
            due("FORBIDDEN to the first " + set, x.answer(0, 4, set, 4, 0, 0), NONE);
            due("FORBIDDEN to the other " + set, x.answer(0, 4, 0, 4, set, 0), NONE);
            due("FORBIDDEN to the other " + set + ", the one can't be bought", x.answer(0, 2, 28, 4, set, 0), NONE);
        }
        due("no VALLEY", new MostCocks().answer(0, 0, 0, 0, 0, 0), NONE);
    }

    private static void bought() {
        term("BOUGHT by n: the POINTS (as bits) for which sets of n COCKS at most, BENT so, are enough.");
        MostCocks x = five();
        due("as it is", x.bought(0, 0), 1 << 4);
        due("the dearest one too", x.bought(0, 1), 1 << 2 | 1 << 4 | 1 << 6);
        due("two", x.bought(0, 2), 255);
        MostCocks alike = told("cock0 5 9 1 3 5;".repeat(11) + "cock0 5 9 1 3 5");
        for (int way = 0; way < 4; way++) due("five of twelve, by " + way, alike.bought(way, 5), 1 << 5);
        for (int way = 0; way < 2; way++) due("six of twelve, by " + way, alike.bought(way, 6), 255);
        for (int way = 2; way < 4; way++) due("six of twelve, those up to 5, by " + way, alike.bought(way, 6), 63);
        for (int way = 2; way < 4; way++) due("seven of twelve, by " + way, alike.bought(way, 7), 255);
        sentence(20, "BOUGHT by n (0 to 12);");
        due("0", alike.bought(0, 0), 1 << 5);
        due("12", alike.bought(0, 12), 255);
        due("12 of five", x.bought(0, 12), 255);
        due("1 of one", saying(row(3)).bought(3, 1), 255);
        due("0 of one", saying(row(3)).bought(3, 0), 8);
        sentence(20, "NONE without these.");
        for (int n : row(13, Integer.MAX_VALUE, -1, Integer.MIN_VALUE)) due("by " + n, x.bought(0, n), NONE);
        for (int way : row(4, Integer.MAX_VALUE, -1, Integer.MIN_VALUE)) due("way " + way, x.bought(way, 1), NONE);
        due("no VALLEY", new MostCocks().bought(0, 0), NONE);
    }

    private static void swings() {
        term("SWINGS of a COCK, for two POINTS (unlike) by a way: each of the other COCKS says one of the two: "
                + "in how many such cases the VOTE is unlike when it says the one or the other.");
        MostCocks x = five();
        due("of five, when the others are two and two", x.swings(0, 0, 2, 5), 6);
        due("by MIDDLE", x.swings(2, 4, 5, 2), 6);
        due("by STRUCK OUT", x.swings(3, 1, 0, 7), 6);
        // 11, 51, 31, 91 and 21: the others must have 12 to 102 of 114
        due("by WEIGHED", x.swings(1, 3, 2, 5), 12);
        MostCocks four = saying(row(0, 0, 0, 0), 0, 0, 0, 9);
        due("the oldest of four", four.swings(0, 3, 1, 5), 6);
        due("another of four", four.swings(0, 0, 1, 5), 2);
        due("by MIDDLE, the less of the two has it", four.swings(2, 0, 1, 5), 3);
        due("by STRUCK OUT, the greater of the two is out", four.swings(3, 0, 5, 1), 3);
        due("by WEIGHED, one is heavier than all", four.swings(1, 3, 1, 5), 8);
        due("by WEIGHED, the others never", four.swings(1, 0, 1, 5), 0);
        sentence(21, "SWINGS;");
        due("alone", saying(row(0)).swings(0, 0, 1, 2), 1);
        due("twelve", told("cock0 5 9 1 3 5;".repeat(11) + "cock0 5 9 1 3 5").swings(0, 11, 2, 3), 420);
        due("POINTS 0 and 7", x.swings(0, 4, 0, 7), 6);
        sentence(21, "NONE without these.");
        for (int point = 0; point < 8; point++) due("two alike", x.swings(0, 0, point, point), NONE);
        for (int way : row(4, Integer.MAX_VALUE, -1, Integer.MIN_VALUE)) due("way " + way, x.swings(way, 0, 2, 3), NONE);
        for (int cock : row(5, 12, Integer.MAX_VALUE, -1, Integer.MIN_VALUE)) due("COCK " + cock, x.swings(0, cock, 2, 3), NONE);
        for (int point : row(8, Integer.MAX_VALUE, -1, Integer.MIN_VALUE)) {
            due("one " + point, x.swings(0, 0, point, 3), NONE);
            due("other " + point, x.swings(0, 0, 3, point), NONE);
        }
        due("no VALLEY", new MostCocks().swings(0, 0, 0, 1), NONE);
    }

    private static void isBest(MostCocks x, int owner, int coins, int point, int left) {
        due("best for " + owner + " with " + coins, x.bestPoint(0, owner, coins, 0), point);
        due("best for " + owner + " with " + coins + ", GAIN less cost", x.bestPoint(0, owner, coins, 1), left);
    }

    private static void bestPoints() {
        term("GAIN of an OWNER by a POINT: what it is worth to him.");
        MostCocks x = five();
        isBest(x, 1, 0, 4, 50);
        isBest(x, 0, 0, 4, 1);
        isBest(x, 2, 0, 4, 0);
        // COCKS 0 and 2 are his own: 2 costs 4 (worth 9), 6 costs 8 (worth 20)
        term("BEST POINT for an OWNER: of POINTS that he can make the VOTE with COCKS that are his own and so many coins "
                + "(CHEAPEST, all others FORBIDDEN),");
        isBest(x, 0, 9999, 6, 12);
        isBest(x, 0, 8, 6, 12);
        isBest(x, 0, 7, 2, 5);
        isBest(x, 0, 4, 2, 5);
        isBest(x, 0, 3, 4, 1);
        MostCocks others = told("cock 0 0 0 0 1 0;cock 0 0 9 5 0 0;worth 0 1 99;worth 1 1 99");
        isBest(others, 1, 9999, 0, 0);
        isBest(others, 0, 9, 0, 0);
        isBest(others, 0, 10, 1, 89);
        term("and the one that it is as it is,");
        isBest(told("cock 0 0 0 0 1 4;worth 0 4 7;worth 0 5 99"), 0, 9999, 4, 7);
        isBest(told("cock 0 0 0 0 1 4;worth 0 5 99"), 0, 9999, 4, 0);
        isBest(told("cock 0 0 9 0 0 4;worth 0 4 90;worth 0 5 99"), 0, 9999, 4, 90);
        term("that of most GAIN less cost, of several the least POINT;");
        isBest(told("cock 0 0 0 0 0 4;worth 0 3 8;worth 0 5 8;worth 0 4 6"), 0, 99, 3, 7);
        isBest(told("cock 0 0 0 0 0 4;worth 0 3 8;worth 0 5 8;worth 0 4 7"), 0, 99, 3, 7);
        isBest(told("cock 0 0 0 0 0 4;worth 0 5 8;worth 0 4 7"), 0, 99, 4, 7);
        isBest(told("cock 0 0 0 0 0 4;worth 0 5 9;worth 0 4 7"), 0, 99, 5, 8);
        isBest(told("cock 0 0 0 0 0 4;worth 0 0 4"), 0, 99, 0, 0);
        isBest(told("cock 0 0 0 0 0 4;worth 0 0 3"), 0, 99, 4, 0);
        term("that GAIN less cost.");
        isBest(told("cock 0 0 9 0 0 4;worth 0 0 99"), 0, 99, 0, 59);
        isBest(told("cock 0 0 9 0 0 4;worth 0 0 40"), 0, 99, 0, 0);
        isBest(told("cock 0 0 9 0 0 4;worth 0 0 41"), 0, 99, 0, 1);

        sentence(27, "BEST POINT (coins 0 to 9999) what 0: it, 1: GAIN less cost;");
        isBest(x, 0, 9999, 6, 12);
        isBest(x, 0, 0, 4, 1);
        isBest(told("cock 0 0 0 0 3 4;worth 3 7 99"), 3, 9999, 7, 96);
        due("by MIDDLE 6 costs 8", x.bestPoint(2, 0, 9999, 1), 12);
        due("by STRUCK OUT 6 costs 4", x.bestPoint(3, 0, 9999, 1), 16);
        due("by WEIGHED 6 can't be made", x.bestPoint(1, 0, 9999, 0), 2);
        sentence(27, "NONE without these.");
        for (int coins : row(10000, Integer.MAX_VALUE, -1, Integer.MIN_VALUE)) due("coins " + coins, x.bestPoint(0, 0, coins, 0), NONE);
        for (int owner : row(4, Integer.MAX_VALUE, -1, Integer.MIN_VALUE)) due("OWNER " + owner, x.bestPoint(0, owner, 1, 0), NONE);
        for (int way : row(4, Integer.MAX_VALUE, -1, Integer.MIN_VALUE)) due("way " + way, x.bestPoint(way, 0, 1, 0), NONE);
        for (int what : row(2, Integer.MAX_VALUE, -1, Integer.MIN_VALUE)) due("what " + what, x.bestPoint(0, 0, 1, what), NONE);
        due("no VALLEY", new MostCocks().bestPoint(0, 0, 0, 0), NONE);
    }
}
