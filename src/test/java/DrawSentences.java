/** Sentences about DRAWS, counts and IMAGES: promises 28 to 33. */
final class DrawSentences extends Bench {
    static void all() {
        draws();
        lots();
        years();
        yearsBounds();
        counts();
        images();
        imageBounds();
    }

    private static void draws() {
        term("DRAWS: x (0 to 2147483647; 0 at first) becomes x * 1103515245 + 12345, of 2147483648 the rest;");
        due("x at first", new MostCocks().count(4), 0);
        MostCocks x = five();
        due("x at first", x.count(4), 0);
        int[] from = {0, 1, 2147483647, 77};
        int[] to = {12345, 1103527590, 1043980748, 1218823938};
        for (int i = 0; i < 4; i++) {
            x.seed(from[i]);
            x.lot();
            due("x from " + from[i], x.count(4), to[i]);
        }
        term("a DRAW is x / 65536.");
        // 0, 21468, 9988, 22117 and 3498: of twelve the 0, 0, 4, 1 and 6
        x = saying(row(0, 1, 2, 3, 4, 5, 6, 7, 0, 0, 0, 0));
        for (int point : row(0, 0, 4, 1, 6)) due("lot", x.lot(), point);

        sentence(28, "x becomes a number: what it was;");
        x = new MostCocks();
        due("from 0", x.seed(5), 0);
        due("x", x.count(4), 5);
        due("the greatest", x.seed(2147483647), 5);
        due("x", x.count(4), 2147483647);
        due("0", x.seed(0), 2147483647);
        due("x", x.count(4), 0);
        sentence(28, "NONE, and nothing happens, below 0.");
        for (int n : row(-1, -2147483647, Integer.MIN_VALUE)) refused("seed " + n, y -> y.seed(n));
        x.seed(9);
        due("without a VALLEY", x.seed(-1), NONE);
        due("x", x.count(4), 9);
    }

    private static void lots() {
        term("LOT: what the COCK says that is a DRAW mod COCKS (x goes on and stays so).");
        // from 1 on: 16838, 5758, 10113, 17515 and 31051: of five the 3, 3, 3, 0 and 1
        MostCocks x = told("cock 0 0 0 0 0 7;cock 0 0 0 0 0 6;cock 0 0 0 0 0 5;cock 0 0 0 0 0 4;cock 0 0 0 0 0 3");
        x.seed(1);
        int[] said = {4, 4, 4, 7, 6};
        int[] drawn = {1103527590, 377401575, 662824084, 1147902781, 2035015474};
        for (int i = 0; i < 5; i++) {
            due("lot", x.lot(), said[i]);
            due("x", x.count(4), drawn[i]);
        }
        x.seed(1);
        x.bend(3, 0);
        due("what it says now", x.lot(), 0);
        sentence(29, "LOT;");
        x = saying(row(3));
        due("of one COCK", x.lot(), 3);
        due("x goes on", x.count(4), 12345);
        sentence(29, "NONE, and x stays, without a VALLEY.");
        x = new MostCocks();
        due("lot", x.lot(), NONE);
        due("x", x.count(4), 0);
        x.seed(5);
        due("lot", x.lot(), NONE);
        due("x", x.count(4), 5);
    }

    private static void years() {
        // WINDS from 0 on: 0 4 4 5 2 7 5 5
        MostCocks x = five();
        int[] eight = {1, 0, 1, 0, 2, 3, 0, 1};
        int[] all = {48, 41, 55, 39, 54, 41, 44, 44};
        term("YEARS: m days (1 to 366), each a WIND (a DRAW mod 8),");
        for (int point = 0; point < 8; point++) {
            due("one day, " + point, x.years(1, 1, 1, 0, point, 0), point == 0 ? 1 : 0);
            due("eight days, " + point, x.years(1, 8, 1, 0, point, 0), eight[point]);
            due("366 days, " + point, x.years(1, 366, 1, 0, point, 0), all[point]);
        }
        x.seed(77);
        due("from 77 on: 5 4 5 1 5 5 7 1 1 2", x.years(1, 10, 1, 0, 5, 0), 4);
        due("from 77 on: 5 4 5 1 5 5 7 1 1 2", x.years(1, 10, 1, 0, 1, 0), 3);

        term("n HOURS (1 to 24) by a LAW from where they are, a VOTE:");
        // day behind day by one POINT: 0 1 2 3 2 1 2 3
        MostCocks one = told("cock 0 0 0 0 0 0", "turn 1", "turn hour", "turn 1 if hour=23");
        int[] days = {1, 2, 3, 2, 0, 0, 0, 0};
        for (int point = 0; point < 8; point++) {
            due("an HOUR, " + point, one.years(0, 8, 1, 0, point, 0), days[point]);
            due("each day has its HOUR 0, " + point, one.years(1, 8, 2, 0, point, 0), days[point]);
            due("24 HOURS, " + point, one.years(2, 8, 24, 0, point, 0), days[point]);
            due("23 HOURS, " + point, one.years(2, 8, 23, 0, point, 0), point == 0 ? 8 : 0);
        }
        one.bend(0, 6);
        // 7 6 5 5 4 5 5 5
        due("from where it is", one.years(0, 8, 1, 0, 7, 0), 1);
        due("from where it is", one.years(0, 8, 1, 0, 5, 0), 5);
        // the oldest has RUST and goes by one POINT as before, the other by two
        x = told("cock 0 0 0 0 0 1;cock 0 0 1 9 0 0", "turn 1 if rust=1;turn 2");
        for (int point = 0; point < 8; point++) due("each by its own words, " + point, x.years(0, 8, 1, 0, point, 0), days[point]);
        // struck out: 5 goes to 4, 2 to 3, then 4 to 3
        x = saying(row(0, 0, 0, 0, 2, 3, 3, 4, 4, 5), 0, 0, 0, 0, 0, 0, 0, 0, 0, 50);
        law(x, "turn 0");
        int[] votes = {0, 5, 2, 3};
        for (int way = 0; way < 4; way++) due("by way " + way, x.years(0, 9, 1, way, votes[way], 0), 9);

        term("how often it was a told POINT,");
        due("never", x.years(0, 366, 1, 0, 7, 0), 0);
        due("always", x.years(0, 366, 1, 0, 0, 0), 366);
        term("how often the WIND,");
        due("when the WIND is 5", x.years(0, 8, 1, 1, 0, 1), 3);
        due("always", told(FIVE, "turn off").years(0, 366, 1, 3, 7, 1), 366);
        due("by one POINT a day", told("cock 0 0 0 0 0 0", "turn 1").years(0, 8, 1, 0, 7, 1), 2);
        term("GAIN of a told OWNER together");
        x = five();
        due("4 twice, 2 once", x.years(1, 8, 1, 0, 0, 2), 11);
        due("4 twice", x.years(1, 8, 1, 0, 1, 2), 100);
        due("nothing", x.years(1, 8, 1, 0, 2, 2), 0);
        due("as much as can be", told("cock 0 0 0 0 0 0;worth 3 0 99", "turn 0").years(0, 366, 24, 0, 3, 2), 36234);
        term("(nothing stays; x as it was).");
        leaves("years", 366, y -> y.years(1, 366, 24, 0, 0, 1));
        leaves("years", 0, y -> y.years(1, 1, 1, 0, 0, 0));
    }

    private static void yearsBounds() {
        sentence(30, "YEARS what 0: how often it was a POINT (told), 1: how often the WIND, 2: GAIN of an OWNER (told);");
        MostCocks x = five();
        due("POINT 7", x.years(1, 8, 1, 0, 7, 0), 1);
        due("WIND, told 7", x.years(1, 8, 1, 0, 7, 1), 8);
        due("WIND, told 0", x.years(1, 8, 1, 0, 0, 1), 8);
        due("OWNER 1", x.years(1, 8, 1, 0, 1, 2), 100);
        due("OWNER 3", x.years(1, 8, 1, 0, 3, 2), 0);
        due("m and n the greatest", x.years(1, 366, 24, 3, 0, 1), 366);
        due("m and n the least", x.years(1, 1, 1, 3, 0, 1), 1);
        sentence(30, "NONE without these (told 0 to 7, with 2 0 to 3).");
        for (int law : row(2, 6, Integer.MAX_VALUE, -1, Integer.MIN_VALUE)) due("LAW " + law, x.years(law, 1, 1, 0, 0, 0), NONE);
        for (int m : row(0, 367, Integer.MAX_VALUE, -1, Integer.MIN_VALUE)) due("days " + m, x.years(1, m, 1, 0, 0, 0), NONE);
        for (int n : row(0, 25, Integer.MAX_VALUE, -1, Integer.MIN_VALUE)) due("HOURS " + n, x.years(1, 1, n, 0, 0, 0), NONE);
        for (int way : row(4, Integer.MAX_VALUE, -1, Integer.MIN_VALUE)) due("way " + way, x.years(1, 1, 1, way, 0, 0), NONE);
        for (int told : row(8, Integer.MAX_VALUE, -1, Integer.MIN_VALUE)) {
            for (int what = 0; what < 3; what++) due("told " + told + " what " + what, x.years(1, 1, 1, 0, told, what), NONE);
        }
        for (int told = 4; told < 8; told++) due("OWNER " + told, x.years(1, 1, 1, 0, told, 2), NONE);
        for (int what : row(3, Integer.MAX_VALUE, -1, Integer.MIN_VALUE)) due("what " + what, x.years(1, 1, 1, 0, 0, what), NONE);
        x = new MostCocks();
        law(x, "turn 1");
        due("no VALLEY", x.years(0, 1, 1, 0, 0, 0), NONE);
    }

    private static void counts() {
        sentence(31, "What 0: COCKS, 1: TREES, 2: LAWS, 3: TREES that are FELLED, 4: x, 5: bytes of the TAPE, 6: the AGE of all COCKS together.");
        int[] none = new int[7];
        int[] five = {5, 3, 2, 0, 0, 0, 200};
        int[] lived = {5, 3, 2, 1, 77, 6, 200};
        for (int what = 0; what < 7; what++) {
            due("of a new object " + what, new MostCocks().count(what), none[what]);
            due("of five " + what, five().count(what), five[what]);
            due("of a lived one " + what, lived().count(what), lived[what]);
        }
        MostCocks x = told("cock0 0 0 99 0 0;".repeat(12) + "tree0 0;".repeat(11) + "tree0 0", "turn 1", "turn 1", "turn 1", "turn 1", "turn 1", "turn 1");
        for (int tree = 0; tree < 12; tree++) x.fell(tree, true);
        x.seed(2147483647);
        for (int i = 0; i < 20; i++) x.feed(0, 0, 0, 0, 0);
        int[] most = {12, 12, 6, 12, 2147483647, 400, 1188};
        for (int what = 0; what < 7; what++) due("the most " + what, x.count(what), most[what]);
        sentence(31, "NONE for others.");
        for (int what : row(7, 8, Integer.MAX_VALUE, -1, Integer.MIN_VALUE)) due("count " + what, x.count(what), NONE);
    }

    private static void images() {
        term("IMAGES 0 to 3: all but the TAPE and the LAWS, as it is;");
        MostCocks x = lived();
        String was = state(x);
        x.image(0);
        due("another VALLEY", changed(x), 1);
        x.back(0);
        same("all as it was, but the bytes and the LAWS", state(x), was.replace("counts 5 3 2 1 77 6", "counts 5 3 3 1 77 3"));
        due("by the LAWS that there are", x.after(2, 7, 1, 0, 1), 0);
        due("the TAPE is what it is", x.law(), -2 - (1 + 8 * 0));
        x = told("cock 0 0 0 0 0 1");
        for (int k = 0; k < 4; k++) {
            due("image", x.image(k), 1);
            x.bend(0, k + 2);
            x.seed(k + 10);
        }
        for (int k = 3; k >= 0; k--) {
            x.back(k);
            due("each its own", x.cock(0, 5), k + 1);
            due("each its own x", x.count(4), k == 0 ? 0 : k + 9);
        }

        term("gone back to, it is as it was (these stay).");
        x = lived();
        was = state(x);
        x.image(1);
        for (int i = 0; i < 2; i++) {
            x.bend(0, 6);
            x.rusts(4, 7);
            x.fell(0, true);
            x.seed(1);
            x.morning();
            due("back", x.back(1), 5);
            same("as it was, time " + i, state(x), was);
        }
        due("the IMAGE ahead is another one", x.back(2), 5);
        due("says", x.cock(1, 5), 2);
        due("x", x.count(4), 0);
        due("FELLED", x.count(3), 0);
        due("RUST", x.cock(4, 2), 2);
        due("back again", x.back(1), 5);
        same("as it was", state(x), was);
        x.bend(2, 0);
        due("made again", x.image(1), 5);
        x.bend(2, 1);
        x.back(1);
        due("the one made last", x.cock(2, 5), 0);
    }

    /** Another VALLEY, a LAW more and three bytes that are no LAW. */
    private static int changed(MostCocks x) {
        x.end(0);
        int cocks = valley(x, "cock 1 1 1 1 1 1;worth 0 2 3");
        x.seed(5);
        law(x, "turn off");
        tell(x, "xyz");
        return cocks;
    }

    private static void imageBounds() {
        sentence(32, "An IMAGE is made: how many COCKS;");
        MostCocks x = five();
        due("image 0", x.image(0), 5);
        due("image 3", x.image(3), 5);
        due("one is there", x.back(0), 5);
        leaves("image", 5, y -> y.image(0));
        due("without a VALLEY", new MostCocks().image(0), 0);
        sentence(32, "NONE without it.");
        for (int k : row(4, Integer.MAX_VALUE, -1, Integer.MIN_VALUE)) refused("image " + k, y -> y.image(k));

        sentence(33, "All is as in an IMAGE: how many COCKS;");
        x = new MostCocks();
        x.seed(3);
        x.image(3);
        valley(x, FIVE);
        x.image(0);
        due("back to no VALLEY", x.back(3), 0);
        due("COCKS", x.count(0), 0);
        due("TREES", x.count(1), 0);
        due("x", x.count(4), 3);
        due("worth", x.worth(0, 2), NONE);
        due("vote", x.vote(0), NONE);
        due("tree", x.tree(0, 0), NONE);
        due("back to five", x.back(0), 5);
        due("vote", x.vote(0), 4);
        due("worth", x.worth(0, 2), 9);
        sentence(33, "NONE, and nothing happens, if it was never made, or without it.");
        for (int k : row(0, 1, 3)) refused("never made " + k, y -> y.back(k));
        for (int k : row(4, Integer.MAX_VALUE, -1, Integer.MIN_VALUE)) refused("back " + k, y -> y.back(k));
        for (int k = 0; k < 4; k++) due("of a new object", new MostCocks().back(k), NONE);
    }
}
