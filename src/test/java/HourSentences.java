/** Sentences about what stands in a VALLEY, how it turns and what hands do to it: promises 6 to 15. */
final class HourSentences extends Bench {
    static void all() {
        points();
        cocksAndTrees();
        worthsAndLee();
        hour();
        turning();
        blowing();
        bending();
        oiling();
        rusting();
        felling();
        mornings();
    }

    private static void points() {
        term("POINTS 0 to 7: north, and on to the right by an eighth of a turn each "
                + "(0: x stays, y 1 less; 1: x 1 more, y 1 less; 2: x 1 more; and so on).");
        int[] x = {4, 5, 5, 5, 4, 3, 3, 3};
        int[] y = {3, 3, 4, 5, 5, 5, 4, 3};
        for (int point = 0; point < 8; point++) {
            MostCocks one = told("cock 4 4 0 0 0 0;tree " + x[point] + " " + y[point]);
            for (int wind = 0; wind < 8; wind++) due("TREE towards " + point + " in " + wind, one.lee(0, wind), wind == point ? 1 : 0);
        }
        term("OFF: by how many POINTS two differ, the shorter way (0 to 4).");
        int[] off = {0, 1, 2, 3, 4, 3, 2, 1};
        for (int from = 0; from < 8; from++) {
            for (int to = 0; to < 8; to++) {
                due("from " + from + " to " + to, saying(row(from)).bend(0, to), off[(to + 8 - from) % 8]);
            }
        }
    }

    private static void cocksAndTrees() {
        sentence(6, "Of a COCK what 0: x, 1: y, 2: RUST, 3: AGE, 4: OWNER, 5: the POINT it says, 6: what it said in the MORNING.");
        MostCocks x = told("cock 0 0 0 0 0 0;cock 1 2 3 44 0 6;cock 9 9 9 99 3 7");
        x.bend(1, 5);
        int[] second = {1, 2, 3, 44, 0, 5, 6};
        for (int what = 0; what < 7; what++) due("what " + what, x.cock(1, what), second[what]);
        int[] third = {9, 9, 9, 99, 3, 7, 7};
        for (int what = 0; what < 7; what++) due("what " + what, x.cock(2, what), third[what]);
        sentence(6, "NONE without these.");
        for (int cock : row(3, 12, 32, Integer.MAX_VALUE, -1, Integer.MIN_VALUE)) due("COCK " + cock, x.cock(cock, 0), NONE);
        for (int what : row(7, 8, Integer.MAX_VALUE, -1, Integer.MIN_VALUE)) due("what " + what, x.cock(0, what), NONE);
        due("no VALLEY", new MostCocks().cock(0, 0), NONE);

        sentence(7, "Of a TREE what 0: x, 1: y, 2: 1 if it is FELLED, else 0.");
        x = told("cock 0 0 0 0 0 0;tree 1 2;tree 3 4;tree 9 0");
        x.fell(1, true);
        int[] told = {1, 2, 0, 3, 4, 1, 9, 0, 0};
        for (int i = 0; i < 9; i++) due("TREE " + i / 3 + " what " + i % 3, x.tree(i / 3, i % 3), told[i]);
        x.fell(1, false);
        due("it stands again", x.tree(1, 2), 0);
        sentence(7, "NONE without these.");
        for (int tree : row(3, 12, 32, Integer.MAX_VALUE, -1, Integer.MIN_VALUE)) due("TREE " + tree, x.tree(tree, 2), NONE);
        for (int what : row(3, 4, Integer.MAX_VALUE, -1, Integer.MIN_VALUE)) due("what " + what, x.tree(0, what), NONE);
        due("no VALLEY", new MostCocks().tree(0, 0), NONE);
        due("no TREE", told("cock 0 0 0 0 0 0").tree(0, 0), NONE);
    }

    private static void worthsAndLee() {
        sentence(8, "What a POINT is worth to an OWNER;");
        MostCocks x = five();
        due("to 0", x.worth(0, 2), 9);
        due("to 0", x.worth(0, 6), 20);
        due("to 1", x.worth(1, 4), 50);
        due("nothing", x.worth(1, 2), 0);
        due("to one without a COCK", told("cock 0 0 0 0 0 0;worth 3 7 99").worth(3, 7), 99);
        sentence(8, "NONE without these, or a VALLEY.");
        for (int owner : row(4, Integer.MAX_VALUE, -1, Integer.MIN_VALUE)) due("OWNER " + owner, x.worth(owner, 0), NONE);
        for (int point : row(8, Integer.MAX_VALUE, -1, Integer.MIN_VALUE)) due("POINT " + point, x.worth(0, point), NONE);
        due("POINT 8 of OWNER 0 is not POINT 0 of OWNER 1", x.worth(0, 12), NONE);
        due("no VALLEY", new MostCocks().worth(0, 0), NONE);

        sentence(9, "TREES in whose lee a COCK is in a WIND;");
        due("two", x.lee(0, 0), 2);
        due("none", x.lee(0, 4), 0);
        due("of another COCK", x.lee(2, 1), 1);
        x.fell(0, true);
        due("one is FELLED", x.lee(0, 0), 1);
        x.fell(0, false);
        due("it stands again", x.lee(0, 0), 2);
        due("all twelve", told("cock 5 5 0 0 0 0" + ";tree 5 4".repeat(12)).lee(0, 0), 12);
        due("no TREE", told("cock 0 1 0 0 0 0").lee(0, 0), 0);
        sentence(9, "NONE without these.");
        for (int cock : row(5, 12, Integer.MAX_VALUE, -1, Integer.MIN_VALUE)) due("COCK " + cock, x.lee(cock, 0), NONE);
        for (int wind : row(8, Integer.MAX_VALUE, -1, Integer.MIN_VALUE)) due("WIND " + wind, x.lee(0, wind), NONE);
        due("no VALLEY", new MostCocks().lee(0, 0), NONE);
    }

    private static void hour() {
        term("An HOUR in a WIND (a POINT) by a LAW: each COCK (asked as they are ahead of it):");
        // of each its own words, and what it says ahead of the hour, not while it turns
        MostCocks x = told("cock 0 0 1 0 0 0;cock 0 0 2 0 0 0;cock 0 0 3 0 0 0", "turn rust", "turn off-at if at<3");
        due("all turn", x.blow(0, 4, 1), 3);
        for (int cock = 0; cock < 3; cock++) due("COCK " + cock, x.cock(cock, 5), cock + 1);
        due("asked anew", x.blow(1, 4, 1), 1);
        due("off 3 less at 1", x.cock(0, 5), 3);
        due("off 2 less at 2", x.cock(1, 5), 2);

        term("the SUM of the first CLAUSE without a TEST, or whose TEST holds");
        turns("turn 1;turn 2", 1, 1);
        turns("turn 1 if 1=1;turn 2", 1, 1);
        turns("turn 1 if 1=2;turn 2", 1, 2);
        turns("turn 1 if 1=2;turn 2 if 1=1;turn 3", 1, 2);
        turns("turn 1 if 1=2;turn 2 if 1=2;turn 3", 1, 3);
        turns("turn 0;turn 2", 1, 0);
        turns("turn 1 if at=0;turn 2", 2, 3);
        term("(0 without one),");
        turns("turn 3 if 1=2", 1, 0);
        turns("turn 3 if 1=2;turn 2 if 1=2", 24, 0);
        term("held to 0 to OFF,");
        turns("turn 3", 1, 3);
        turns("turn 4", 1, 3);
        turns("turn 99999", 1, 3);
        turns("turn 0", 1, 0);
        turns("turn 0-1", 1, 0);
        turns("turn 1-2", 24, 0);
        // 2 to the 31st, 32nd and 63rd, above and below 0: what is not held in 64 bits goes wrong
        turns("turn 32768*65536", 1, 3);
        turns("turn 65536*65536", 1, 3);
        turns("turn 1-65536*65536", 1, 0);
        turns("turn 0-32768*65536-1", 1, 0);
        turns("turn 65536*65536*65536*32768", 1, 0);
        turns("turn 65536*65536*65536*32768-1", 1, 3);
    }

    private static void turning() {
        term("is by how many POINTS it turns towards the WIND, the shorter way (4 OFF: to the right).");
        // the POINT after an hour of two POINTS, by how far the WIND is to the right
        int[] turn = {0, 1, 2, 2, 2, -2, -2, -1};
        for (int from = 0; from < 8; from++) {
            for (int right = 0; right < 8; right++) {
                MostCocks x = told("cock 0 0 0 0 0 " + from, "turn 2");
                x.blow(0, (from + right) % 8, 1);
                due("from " + from + ", WIND " + right + " to the right", x.cock(0, 5), (from + turn[right] + 8) % 8);
            }
        }
        term("HOURS that are asked together are 0, 1, 2, ...");
        turns("turn hour", 1, 0);
        turns("turn hour", 2, 1);
        turns("turn hour", 3, 3);
        MostCocks x = told("cock 0 0 0 0 0 0", "turn hour");
        for (int i = 0; i < 3; i++) due("asked one by one each is 0", x.blow(0, 4, 1), 0);
        due("asked by two", x.blow(0, 4, 2), 1);
        due("so they are again", x.blow(0, 4, 2), 1);
        due("two POINTS", x.cock(0, 5), 2);
    }

    private static void blowing() {
        sentence(10, "So many HOURS (1 to 24) in a WIND by a LAW: how many COCKS say another POINT then;");
        MostCocks x = five();
        due("an hour", x.blow(0, 0, 1), 4);
        int[] then = {2, 1, 5, 0, 7};
        for (int cock = 0; cock < 5; cock++) due("COCK " + cock, x.cock(cock, 5), then[cock]);
        due("MORNING stays", x.cock(1, 6), 2);
        due("none says another", x.blow(1, 0, 1) + 10 * x.blow(1, 0, 1), 4);
        x = told("cock 0 0 0 0 0 0", "turn 1 if hour>21");
        due("23 hours", x.blow(0, 4, 23), 1);
        due("one POINT", x.cock(0, 5), 1);
        due("24 hours", x.blow(0, 4, 24), 1);
        due("two POINTS more", x.cock(0, 5), 3);
        due("WIND 7", x.blow(0, 7, 24), 1);
        due("two POINTS on", x.cock(0, 5), 5);

        sentence(10, "NONE, and nothing happens, without these (no VALLEY).");
        for (int law : row(2, 5, 6, Integer.MAX_VALUE, -1, Integer.MIN_VALUE)) refused("blow by LAW " + law, y -> y.blow(law, 0, 1));
        for (int wind : row(8, Integer.MAX_VALUE, -1, Integer.MIN_VALUE)) refused("blow in WIND " + wind, y -> y.blow(1, wind, 1));
        for (int n : row(0, 25, Integer.MAX_VALUE, -1, Integer.MIN_VALUE)) refused("blow HOURS " + n, y -> y.blow(1, 0, n));
        x = new MostCocks();
        law(x, "turn 1");
        due("no VALLEY", x.blow(0, 0, 1), NONE);
    }

    private static void bending() {
        term("BENT: a COCK says another POINT; it costs RUST and 1 for each POINT by which that is OFF.");
        for (int rust : row(0, 1, 9)) {
            int[] off = {0, 1, 2, 3, 4, 3, 2, 1};
            for (int to = 0; to < 8; to++) {
                MostCocks x = told("cock 0 0 " + rust + " 0 0 3");
                due("RUST " + rust + " to " + (3 + to) % 8, x.bend(0, (3 + to) % 8), (rust + 1) * off[to]);
                due("says", x.cock(0, 5), (3 + to) % 8);
            }
        }
        sentence(11, "A COCK is BENT to a POINT: what it costs;");
        MostCocks x = five();
        due("bend", x.bend(3, 0), 40);
        due("from there", x.bend(3, 7), 10);
        due("to what it says", x.bend(3, 7), 0);
        due("says", x.cock(3, 5), 7);
        due("RUST stays", x.cock(3, 2), 9);
        due("what it said in the MORNING stays", x.cock(3, 6), 4);
        due("another COCK stays", x.cock(2, 5), 4);
        sentence(11, "NONE, and nothing happens, without these.");
        for (int cock : row(5, 12, Integer.MAX_VALUE, -1, Integer.MIN_VALUE)) refused("bend COCK " + cock, y -> y.bend(cock, 0));
        for (int point : row(8, Integer.MAX_VALUE, -1, Integer.MIN_VALUE)) refused("bend to " + point, y -> y.bend(1, point));
        due("no VALLEY", new MostCocks().bend(0, 0), NONE);
    }

    private static void oiling() {
        term("OILED: RUST 0; it costs its RUST.");
        for (int rust : row(0, 1, 9)) {
            MostCocks x = told("cock 0 0 " + rust + " 0 0 3");
            due("oil", x.oil(0), rust);
            due("RUST", x.cock(0, 2), 0);
            due("bend costs 1 now", x.bend(0, 4), 1);
        }
        sentence(12, "A COCK is OILED: what it costs;");
        MostCocks x = five();
        due("oil", x.oil(3), 9);
        due("RUST", x.cock(3, 2), 0);
        due("again", x.oil(3), 0);
        due("another COCK's stays", x.cock(4, 2), 2);
        sentence(12, "NONE, and nothing happens, without it.");
        for (int cock : row(5, 12, Integer.MAX_VALUE, -1, Integer.MIN_VALUE)) refused("oil COCK " + cock, y -> y.oil(cock));
        due("no VALLEY", new MostCocks().oil(0), NONE);
    }

    private static void rusting() {
        sentence(13, "RUST of a COCK becomes n (0 to 9): what it was;");
        MostCocks x = five();
        due("9", x.rusts(1, 9), 3);
        due("RUST", x.cock(1, 2), 9);
        due("0", x.rusts(1, 0), 9);
        due("RUST", x.cock(1, 2), 0);
        due("5", x.rusts(1, 5), 0);
        due("bend costs 6 now", x.bend(1, 3), 6);
        sentence(13, "NONE, and nothing happens, without these.");
        for (int n : row(10, Integer.MAX_VALUE, -1, Integer.MIN_VALUE)) refused("rusts " + n, y -> y.rusts(1, n));
        for (int cock : row(5, 12, Integer.MAX_VALUE, -1, Integer.MIN_VALUE)) refused("rusts of COCK " + cock, y -> y.rusts(cock, 1));
        due("no VALLEY", new MostCocks().rusts(0, 0), NONE);
    }

    private static void felling() {
        term("FELLED: a TREE is there no more (its number stays).");
        MostCocks x = told("cock 5 5 0 0 0 0;tree 5 4;tree 5 3;tree 5 2", "turn lee");
        x.fell(1, true);
        due("lee", x.lee(0, 0), 2);
        due("TREES", x.count(1), 3);
        due("the one behind it", x.tree(2, 1), 2);
        due("where it was", x.tree(1, 1), 3);
        x.bend(0, 4);
        x.blow(0, 0, 1);
        due("turned by two TREES", x.cock(0, 5), 6);

        sentence(14, "A TREE is FELLED, or stands again: true;");
        due("stands again", x.fell(1, false), true);
        due("lee", x.lee(0, 0), 3);
        for (int tree = 0; tree < 3; tree++) due("fell " + tree, x.fell(tree, true), true);
        due("all of them", x.count(3), 3);
        due("lee", x.lee(0, 0), 0);
        due("one stands again", x.fell(2, false), true);
        due("lee", x.lee(0, 0), 1);
        x = told("cock 5 5 0 0 0 0" + ";tree 5 4".repeat(12));
        due("the twelfth", x.fell(11, true), true);
        due("it is FELLED", x.tree(11, 2), 1);

        sentence(14, "false, and nothing happens: it is so, or there is none.");
        leaves("felled already", 0, y -> y.fell(1, true) ? 1 : 0);
        leaves("standing", 0, y -> y.fell(0, false) ? 1 : 0);
        for (int tree : row(3, 12, 32, 33, Integer.MAX_VALUE, -1, Integer.MIN_VALUE)) {
            leaves("fell TREE " + tree, 0, y -> y.fell(tree, true) ? 1 : 0);
            leaves("TREE " + tree + " stands", 0, y -> y.fell(tree, false) ? 1 : 0);
        }
        due("no VALLEY", new MostCocks().fell(0, true), false);
        due("no TREE", told("cock 0 0 0 0 0 0").fell(0, true), false);
    }

    private static void mornings() {
        term("MORNING: what all say is kept.");
        MostCocks x = five();
        x.bend(0, 3);
        x.bend(4, 0);
        x.morning();
        int[] says = {3, 2, 4, 4, 0};
        for (int cock = 0; cock < 5; cock++) due("kept of " + cock, x.cock(cock, 6), says[cock]);
        x.bend(0, 5);
        due("it stays kept", x.cock(0, 6), 3);
        sentence(15, "MORNING: how many COCKS say something else now than in the MORNING there was");
        x = five();
        due("none", x.morning(), 0);
        x.bend(0, 3);
        x.bend(1, 3);
        x.bend(1, 2);
        x.bend(4, 0);
        due("two, one is as it was", x.morning(), 2);
        due("none since", x.morning(), 0);
        x.bend(0, 2);
        due("as at first is something else now", x.morning(), 1);
        for (int cock = 0; cock < 5; cock++) x.bend(cock, 7);
        due("all", x.morning(), 5);
        x = told("cock0 0 0 0 0 0;".repeat(11) + "cock0 0 0 0 0 0", "turn 1");
        x.blow(0, 4, 1);
        due("all twelve", x.morning(), 12);
        sentence(15, "(0 without a VALLEY).");
        due("no VALLEY", new MostCocks().morning(), 0);
        x = new MostCocks();
        valley(x, "cock 0 0 0 0 0 9");
        due("a FAULT is no VALLEY", x.morning(), 0);
    }
}
