/** Sentences about winds that were and winds that come: promises 22 to 26. */
final class WindSentences extends Bench {
    static void all() {
        nothingChanges();
        explained();
        explainedBounds();
        trueWinds();
        afterwards();
        felled();
        oil();
        oiledBounds();
    }

    private static void nothingChanges() {
        term("(Nothing changes by what is asked.)");
        leaves("vote", 4, x -> x.vote(0));
        leaves("says", 2, x -> x.says(4));
        leaves("lee", 1, x -> x.lee(0, 0));
        leaves("cheapest", 2, x -> x.cheapest(0, 3, 0, 0));
        leaves("answer", 1, x -> x.answer(0, 3, 0, 4, 0, 0));
        leaves("bought", 255, x -> x.bought(0, 12));
        leaves("swings", 6, x -> x.swings(0, 0, 1, 2));
        leaves("explained", 120, x -> x.explained(0, 1, 0));
        leaves("trueWind", 4, x -> x.trueWind(0, 0, 1));
        leaves("after", 1, x -> x.after(1, 1, 24, 0, 0));
        leaves("felled", -3, x -> x.felled(1, 1, 1, 0));
        leaves("felled", -2, x -> x.felled(0, 0, 0, 0));
        leaves("oiled", 0, x -> x.oiled(1, 1, 1, 0, 0));
        leaves("bestPoint", 16, x -> x.bestPoint(0, 0, 9999, 1));
        leaves("years", 366, x -> x.years(1, 366, 24, 0, 0, 1));
    }

    private static void explained() {
        term("EXPLAINED, from the MORNING on by a LAW in n HOURS (0 to 24): WINDS (as bits) by which a COCK would say what it says now.");
        MostCocks x = told("cock 0 0 0 0 0 7;cock 0 0 0 0 0 2", "turn 1", "turn hour");
        due("no HOUR, as it was", x.explained(0, 0, 1), 255);
        due("an HOUR, as it was", x.explained(0, 1, 1), 1 << 2);
        due("24, as it was", x.explained(0, 24, 1), 1 << 2);
        due("the first one is HOUR 0", x.explained(1, 1, 1), 255);
        x.bend(1, 3);
        due("no HOUR, not as it was", x.explained(0, 0, 1), 0);
        due("to the right, up to 4 OFF", x.explained(0, 1, 1), 1 << 3 | 1 << 4 | 1 << 5 | 1 << 6);
        due("two HOURS", x.explained(0, 2, 1), 1 << 3);
        due("24 HOURS", x.explained(0, 24, 1), 1 << 3);
        due("HOURS 0 and 1", x.explained(1, 2, 1), 1 << 3 | 1 << 4 | 1 << 5 | 1 << 6);
        x.bend(1, 1);
        due("to the left", x.explained(0, 1, 1), 1 << 1 | 1 | 1 << 7);
        x.bend(1, 6);
        due("too far", x.explained(0, 3, 1), 0);
        due("half round", x.explained(0, 4, 1), 1 << 6);
        due("the other COCK", x.explained(0, 1, 0), 1 << 7);
        x.morning();
        due("from the MORNING on", x.explained(0, 0, 1), 255);
        due("from the MORNING on", x.explained(0, 1, 1), 1 << 6);
        x = told("cock 5 5 4 0 0 2;tree 5 4", "turn off if rust=0 and lee=0");
        x.bend(0, 0);
        due("RUST as it is", x.explained(0, 1, 0), 0);
        x.oil(0);
        due("TREES as they are", x.explained(0, 1, 0), 0);
        x.fell(0, true);
        due("OILED and FELLED", x.explained(0, 1, 0), 1);
    }

    private static void explainedBounds() {
        sentence(22, "EXPLAINED;");
        MostCocks x = five();
        due("0 HOURS", x.explained(0, 0, 4), 255);
        due("24 HOURS", x.explained(1, 24, 4), 1 << 6);
        due("the first COCK", x.explained(1, 24, 0), 1 << 2);
        sentence(22, "NONE without these.");
        for (int law : row(2, 6, Integer.MAX_VALUE, -1, Integer.MIN_VALUE)) due("LAW " + law, x.explained(law, 1, 0), NONE);
        for (int n : row(25, Integer.MAX_VALUE, -1, Integer.MIN_VALUE)) due("HOURS " + n, x.explained(0, n, 0), NONE);
        for (int cock : row(5, 12, Integer.MAX_VALUE, -1, Integer.MIN_VALUE)) due("COCK " + cock, x.explained(0, 1, cock), NONE);
        due("no VALLEY", lawAlone().explained(0, 1, 0), NONE);
        due("no LAW", told(FIVE).explained(0, 1, 0), NONE);
    }

    private static MostCocks lawAlone() {
        MostCocks x = new MostCocks();
        law(x, "turn 1");
        return x;
    }

    private static void isTrueWind(MostCocks x, int n, int wind, int many, int not) {
        due("TRUE WIND", x.trueWind(0, n, 0), wind);
        due("how many it explains", x.trueWind(0, n, 1), many);
        due("those that it does not explain", x.trueWind(0, n, 2), not);
    }

    private static void trueWinds() {
        term("TRUE WIND: that which explains most COCKS, of several the least; how many; those that it does not explain.");
        MostCocks x = told("cock 0 0 0 0 0 0;cock 0 0 0 0 0 1;cock 0 0 0 0 0 4;cock 0 0 0 0 0 6", "turn off");
        x.blow(0, 7, 1);
        isTrueWind(x, 1, 7, 4, 0);
        x.bend(2, 1);
        isTrueWind(x, 1, 7, 3, 4);
        isTrueWind(x, 24, 7, 3, 4);
        x.bend(3, 1);
        isTrueWind(x, 1, 1, 2, 1 | 2);
        x.bend(0, 2);
        isTrueWind(x, 1, 1, 2, 1 | 2);
        x.bend(1, 3);
        x.bend(2, 2);
        isTrueWind(x, 1, 2, 2, 2 | 8);
        isTrueWind(x, 0, 0, 0, 15);
        x.bend(1, 1);
        isTrueWind(x, 0, 0, 1, 13);
        x.morning();
        isTrueWind(x, 0, 0, 4, 0);
        x = told("cock 5 5 0 0 0 2;tree 5 4", "turn off if lee=0");
        x.bend(0, 0);
        isTrueWind(x, 1, 0, 0, 1);

        sentence(23, "TRUE WIND what 0: it, 1: how many it explains, 2: COCKS that it does not, as bits;");
        isTrueWind(told("cock 0 0 0 0 0 3;".repeat(11) + "cock 0 0 0 0 0 3", "turn off"), 24, 3, 12, 0);
        x = told("cock 0 0 0 0 0 3;".repeat(11) + "cock 0 0 0 0 0 3", "turn off");
        for (int cock = 0; cock < 12; cock++) x.bend(cock, cock == 5 ? 3 : 4);
        isTrueWind(x, 1, 4, 11, 1 << 5);
        isTrueWind(x, 0, 0, 1, 4095 - (1 << 5));
        sentence(23, "NONE without these.");
        for (int law : row(1, 6, Integer.MAX_VALUE, -1, Integer.MIN_VALUE)) due("LAW " + law, x.trueWind(law, 1, 0), NONE);
        for (int n : row(25, Integer.MAX_VALUE, -1, Integer.MIN_VALUE)) due("HOURS " + n, x.trueWind(0, n, 0), NONE);
        for (int what : row(3, Integer.MAX_VALUE, -1, Integer.MIN_VALUE)) due("what " + what, x.trueWind(0, 1, what), NONE);
        due("no VALLEY", lawAlone().trueWind(0, 1, 0), NONE);
    }

    private static void afterwards() {
        term("AFTER n HOURS in a WIND by a LAW: the VOTE then;");
        MostCocks x = told("cock 5 5 0 0 0 0;tree 6 6", "turn 1", "turn hour", "turn lee");
        for (int n = 0; n <= 24; n++) due("after " + n, x.after(0, 4, n, 0, 0), Math.min(n, 4));
        due("HOURS 0, 1, 2", x.after(1, 4, 3, 0, 0), 3);
        due("to the left", x.after(0, 5, 2, 0, 0), 6);
        due("in the lee", x.after(2, 3, 2, 0, 0), 2);
        due("not in the lee", x.after(2, 4, 2, 0, 0), 0);
        // 2 2 4 4 6 become 2 2 3 4 7 in WIND 2
        x = told("cock 0 0 9 0 0 2;cock 0 0 9 0 0 2;cock 0 0 0 0 0 4;cock 0 0 9 0 0 4;cock 0 0 0 9 0 6", "turn 1 if rust=0");
        int[] votes = {2, 7, 3, 2};
        for (int way = 0; way < 4; way++) due("by way " + way, x.after(0, 2, 1, way, 0), votes[way]);
        term("WRONG: by how many POINTS it is OFF the WIND.");
        int[] wrong = {0, 3, 1, 0};
        for (int way = 0; way < 4; way++) due("by way " + way, x.after(0, 2, 1, way, 1), wrong[way]);
        x = told("cock 0 0 0 0 0 7", "turn 0");
        int[] off = {1, 2, 3, 4, 3, 2, 1, 0};
        for (int wind = 0; wind < 8; wind++) due("OFF " + wind, x.after(0, wind, 1, 0, 1), off[wind]);

        sentence(24, "AFTER (n 0 to 24) what 0: the VOTE, 1: WRONG;");
        x = five();
        due("0 HOURS", x.after(1, 7, 0, 0, 0), 4);
        due("0 HOURS, WRONG", x.after(1, 7, 0, 0, 1), 3);
        due("24 HOURS", x.after(1, 7, 24, 0, 0), 7);
        due("24 HOURS, WRONG", x.after(1, 7, 24, 0, 1), 0);
        sentence(24, "NONE without these.");
        for (int law : row(2, 6, Integer.MAX_VALUE, -1, Integer.MIN_VALUE)) due("LAW " + law, x.after(law, 0, 1, 0, 0), NONE);
        for (int wind : row(8, Integer.MAX_VALUE, -1, Integer.MIN_VALUE)) due("WIND " + wind, x.after(1, wind, 1, 0, 0), NONE);
        for (int n : row(25, Integer.MAX_VALUE, -1, Integer.MIN_VALUE)) due("HOURS " + n, x.after(1, 0, n, 0, 0), NONE);
        for (int way : row(4, Integer.MAX_VALUE, -1, Integer.MIN_VALUE)) due("way " + way, x.after(1, 0, 1, way, 0), NONE);
        for (int what : row(2, Integer.MAX_VALUE, -1, Integer.MIN_VALUE)) due("what " + what, x.after(1, 0, 1, 0, what), NONE);
        due("no VALLEY", lawAlone().after(0, 0, 1, 0, 0), NONE);
    }

    private static void felled() {
        term("FELL: the first TREE without which the VOTE then were the WIND (if it is not so as it is).");
        MostCocks x = told("cock 5 5 0 1 0 2;tree 1 1;tree 5 4;tree 5 3;tree 5 6;tree 5 7", "turn off if lee<2", "turn off if lee=0");
        due("either would do", x.felled(0, 0, 1, 0), 1);
        due("two at once would do", x.felled(1, 0, 1, 0), -2);
        x.fell(1, true);
        due("it is so as it is", x.felled(0, 0, 1, 0), -3);
        due("the other one now", x.felled(1, 0, 1, 0), 2);
        x.fell(2, true);
        due("it is so as it is", x.felled(1, 0, 1, 0), -3);
        due("the other trees", x.felled(0, 4, 1, 0), 3);
        sentence(25, "FELL: the TREE;");
        due("the first", told("cock 5 5 0 0 0 2;tree 5 4", "turn off if lee=0").felled(0, 0, 24, 0), 0);
        due("the last", told("cock 5 5 0 0 0 2" + ";tree 1 1".repeat(11) + ";tree 5 4", "turn off if lee=0").felled(0, 0, 1, 3), 11);
        MostCocks two = told("cock 5 5 0 0 0 4;cock 2 2 0 9 0 4;tree 5 4;tree 2 1", "turn off if lee=0");
        int[] trees = {1, 1, 0, 0};
        for (int way = 0; way < 4; way++) due("by way " + way, two.felled(0, 0, 1, way), trees[way]);
        sentence(25, "-2: none would do;");
        due("no HOUR", x.felled(1, 4, 0, 0), -2);
        due("no TREE", told("cock 5 5 0 0 0 2", "turn 0").felled(0, 0, 1, 0), -2);
        due("too far", told("cock 5 5 0 0 0 2;tree 5 4", "turn 1 if lee=0").felled(0, 0, 1, 0), -2);
        due("in two HOURS", told("cock 5 5 0 0 0 2;tree 5 4", "turn 1 if lee=0").felled(0, 0, 2, 0), 0);
        sentence(25, "-3: it is so as it is;");
        due("no HOUR", x.felled(1, 2, 0, 0), -3);
        due("an HOUR", x.felled(1, 2, 1, 0), -3);
        due("though felling would not do", told("cock 5 5 0 0 0 2;tree 5 4", "turn 9 if lee>0").felled(0, 0, 1, 0), -3);
        sentence(25, "NONE without these.");
        for (int law : row(2, 6, Integer.MAX_VALUE, -1, Integer.MIN_VALUE)) due("LAW " + law, x.felled(law, 2, 1, 0), NONE);
        for (int wind : row(8, Integer.MAX_VALUE, -1, Integer.MIN_VALUE)) due("WIND " + wind, x.felled(1, wind, 1, 0), NONE);
        for (int n : row(25, Integer.MAX_VALUE, -1, Integer.MIN_VALUE)) due("HOURS " + n, x.felled(1, 2, n, 0), NONE);
        for (int way : row(4, Integer.MAX_VALUE, -1, Integer.MIN_VALUE)) due("way " + way, x.felled(1, 2, 1, way), NONE);
        due("no VALLEY", lawAlone().felled(0, 0, 1, 0), NONE);
    }

    private static void isOil(MostCocks x, int way, int cost, int set) {
        due("OIL by way " + way + ", cost", x.oiled(0, 0, 1, way, 0), cost);
        due("OIL by way " + way + ", set", x.oiled(0, 0, 1, way, 1), set);
    }

    private static void oil() {
        term("OIL: the cheapest set of COCKS (of several the fewest, then the least) that, OILED, would let the VOTE then be the WIND.");
        // by WEIGHED the first (10) is enough for 4, or the second and third (11) for 4
        MostCocks x = told("cock 0 0 4 9 0 1;cock 0 0 2 4 0 2;cock 0 0 2 5 0 3;cock 0 0 9 6 0 4", "turn off if rust=0");
        isOil(x, 1, 4, 1);
        x.rusts(0, 5);
        isOil(x, 1, 4, 2 | 4);
        x.rusts(0, 3);
        isOil(x, 1, 3, 1);
        // one that has no RUST turns as it is, and is never of the set
        x = told("cock 0 0 3 0 0 2;cock 0 0 3 0 0 2;cock 0 0 0 0 0 4", "turn off if rust=0");
        isOil(x, 0, 3, 1);
        x.rusts(1, 2);
        isOil(x, 0, 2, 2);
        isOil(x, 3, 2, 2);
        // of any two of three the least
        x = told("cock 0 0 1 0 0 4;cock 0 0 1 0 0 4;cock 0 0 1 0 0 4", "turn off if rust=0");
        isOil(x, 0, 2, 1 | 2);
        isOil(x, 2, 2, 1 | 2);
        // the oldest alone would do, and costs more
        x = told("cock 0 0 9 9 0 4;cock 0 0 1 0 0 4;cock 0 0 1 0 0 5", "turn off if rust=0");
        isOil(x, 0, 2, 2 | 4);
        isOil(x, 1, 9, 1);
        // the oldest turns by its RUST: OILED, it would not
        x = told("cock 0 0 1 9 0 1;cock 0 0 1 0 0 4;cock 0 0 1 0 0 4;cock 0 0 1 0 0 4", "turn off if rust=0 and cock>0;turn 1 if rust=1 and cock=0");
        isOil(x, 0, 1, 2);
        isOil(x, 2, 1, 2);
        // the cheaper one stands in the lee
        x = told("cock 5 5 1 0 0 4;cock 9 9 2 0 0 4;tree 5 4", "turn off if rust=0 and lee=0");
        isOil(x, 2, 2, 2);
        x.fell(0, true);
        isOil(x, 2, 1, 1);
    }

    private static void oiledBounds() {
        sentence(26, "OIL what 0: cost, 1: the set;");
        MostCocks x = told("cock 0 0 9 0 0 2;".repeat(11) + "cock 0 0 9 0 0 2", "turn off if rust=0");
        isOil(x, 0, 54, 63);
        isOil(x, 2, 54, 63);
        isOil(x, 3, 54, 63);
        due("WIND 7 is the greater, so by seven", x.oiled(0, 7, 24, 3, 0), 63);
        due("it is so as it is", x.oiled(0, 2, 1, 0, 0), 0);
        due("it is so as it is", x.oiled(0, 2, 1, 0, 1), 0);
        due("0 HOURS, as it is", x.oiled(0, 2, 0, 0, 1), 0);
        due("24 HOURS", told("cock 0 0 5 0 0 4", "turn 1 if rust=0 and hour>19").oiled(0, 0, 24, 0, 0), 5);
        due("23 HOURS are too few", told("cock 0 0 5 0 0 4", "turn 1 if rust=0 and hour>19").oiled(0, 0, 23, 0, 0), -2);
        sentence(26, "-2: none would do;");
        due("0 HOURS", x.oiled(0, 0, 0, 0, 0), -2);
        due("0 HOURS", x.oiled(0, 0, 0, 0, 1), -2);
        due("none turns", told("cock 0 0 9 0 0 2", "turn 0").oiled(0, 0, 1, 0, 0), -2);
        due("none has RUST", told("cock 0 0 0 0 0 2", "turn 1").oiled(0, 0, 1, 0, 1), -2);
        sentence(26, "NONE without these.");
        for (int law : row(1, 6, Integer.MAX_VALUE, -1, Integer.MIN_VALUE)) due("LAW " + law, x.oiled(law, 2, 1, 0, 0), NONE);
        for (int wind : row(8, Integer.MAX_VALUE, -1, Integer.MIN_VALUE)) due("WIND " + wind, x.oiled(0, wind, 1, 0, 0), NONE);
        for (int n : row(25, Integer.MAX_VALUE, -1, Integer.MIN_VALUE)) due("HOURS " + n, x.oiled(0, 2, n, 0, 0), NONE);
        for (int way : row(4, Integer.MAX_VALUE, -1, Integer.MIN_VALUE)) due("way " + way, x.oiled(0, 2, 1, way, 0), NONE);
        for (int what : row(2, Integer.MAX_VALUE, -1, Integer.MIN_VALUE)) due("what " + what, x.oiled(0, 2, 1, 0, what), NONE);
        due("no VALLEY", lawAlone().oiled(0, 0, 1, 0, 0), NONE);
    }
}
