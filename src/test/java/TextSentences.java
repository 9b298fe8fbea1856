/** Sentences about the TAPE and the two languages: promises 1 to 5, and the Terms of VALLEYS, LAWS and FAULTS. */
final class TextSentences extends Bench {
    static void all() {
        newObject();
        feeding();
        ending();
        valleys();
        laws();
        valleyClauses();
        valleyNumbers();
        tests();
        sums();
        values();
        words();
        arithmetic();
        blanks();
        limits();
        faults();
        faultKinds();
        faultsAtOnePlace();
    }

    private static String blank(int n) {
        return " ".repeat(n);
    }

    private static void newObject() {
        sentence(1, "No VALLEY,");
        MostCocks x = new MostCocks();
        for (int what : row(0, 1, 3, 6)) due("count " + what, x.count(what), 0);
        due("cock", x.cock(0, 0), NONE);
        due("tree", x.tree(0, 0), NONE);
        due("worth", x.worth(0, 0), NONE);
        due("vote", x.vote(0), NONE);
        due("fell", x.fell(0, true), false);
        sentence(1, "no LAWS.");
        due("laws", x.count(2), 0);
        valley(x, FIVE);
        due("blow", x.blow(0, 0, 1), NONE);
        due("the first law", law(x, "turn 1"), 0);
        due("blow by it", x.blow(0, 0, 1), 5);
        term("The constants: `NONE = -1`: None.");
        due("NONE", MostCocks.NONE, -1);
    }

    private static void feeding() {
        sentence(2, "Twenty bytes come behind the TAPE, of each number the highest first: how many it has;");
        MostCocks x = new MostCocks();
        // "cock 7 8 9 65 3 4;tr" and "ee 1 2;worth 3 7 98 ", no two numbers alike
        due("feed", x.feed(0x636f636b, 0x20372038, 0x20392036, 0x35203320, 0x343b7472), 20);
        due("feed", x.feed(0x65652031, 0x20323b77, 0x6f727468, 0x20332037, 0x20393820), 40);
        due("bytes", x.count(5), 40);
        due("valley", x.valley(), 1);
        int[] cock = {7, 8, 9, 65, 3, 4};
        for (int what = 0; what < 6; what++) due("cock " + what, x.cock(0, what), cock[what]);
        due("tree x", x.tree(0, 0), 1);
        due("tree y", x.tree(0, 1), 2);
        due("worth", x.worth(3, 7), 98);
        due("bytes of 255", x.feed(-1, -1, -1, -1, -1), 20);
        due("a byte of 255 stands nowhere", x.valley(), -3);

        sentence(2, "NONE, and none comes, if it would have more than 400.");
        x = new MostCocks();
        tell(x, "cock 1 2 3 4 1" + blank(365) + "6");
        due("with 380", x.feed(0x20202020, 0x20202020, 0x20202020, 0x20202020, 0x20202020), 400);
        due("with 400", x.feed(0x78787878, 0, 0, 0, 0), NONE);
        due("bytes", x.count(5), 400);
        due("all 400 are a VALLEY", x.valley(), 1);
        tell(x, "cock 1 2 3 4 1" + blank(366) + "6");
        due("with 381", x.feed(0x78787878, 0, 0, 0, 0), NONE);
        due("bytes", x.count(5), 381);
        due("all 381 are a VALLEY", x.valley(), 1);
        tell(x, "cock 1 2 3 4 1" + blank(384) + "6");
        due("with 399", x.feed(0x78787878, 0, 0, 0, 0), NONE);
        due("bytes", x.count(5), 399);
        due("all 399 are a VALLEY", x.valley(), 1);
        due("feed when it is empty", x.feed(0, 0, 0, 0, 0), 20);
    }

    private static void ending() {
        sentence(3, "The TAPE has its first n bytes alone: n;");
        MostCocks x = new MostCocks();
        tell(x, "cock 1 2 3 4 1 67xx");
        due("as many as it has", x.end(19), 19);
        due("bytes", x.count(5), 19);
        due("fewer", x.end(16), 16);
        due("bytes", x.count(5), 16);
        due("they come behind these", x.feed(0x3b747265, 0x65203520, 0x36202020, 0x20202020, 0x20202020), 36);
        due("valley", x.valley(), 1);
        due("POINT", x.cock(0, 5), 6);
        due("tree", x.tree(0, 1), 6);
        x.feed(0x636f636b, 0x20312032, 0x20332034, 0x20312036, 0x37373737);
        x.end(16);
        due("a digit that was cut off is no digit of it", x.valley(), 1);
        x.feed(0x7475726e, 0x206f6666, 0x6f666620, 0, 0);
        x.end(8);
        due("a letter that was cut off is no letter of it", x.law(), 0);
        x.feed(0, 0, 0, 0, 0);
        due("none", x.end(0), 0);
        due("bytes", x.count(5), 0);
        due("none of none", x.end(0), 0);

        sentence(3, "NONE, and nothing happens, if it has not so many, or n is below 0.");
        x = new MostCocks();
        due("1 of none", x.end(1), NONE);
        tell(x, "cock 1 2 3 4 1 6");
        for (int n : row(17, 20, 400, Integer.MAX_VALUE, -1, -16, Integer.MIN_VALUE)) {
            due("end " + n, x.end(n), NONE);
            due("bytes", x.count(5), 16);
        }
        due("those that were cut off do not come again", x.end(15) + x.end(16), 15 + NONE);
        x.end(0);
        tell(x, "cock 1 2 3 4 1 6");
        x.end(17);
        due("valley", x.valley(), 1);
        refused("end(7)", y -> y.end(7));
        refused("end(-1)", y -> y.end(-1));
    }

    private static void valleys() {
        sentence(4, "The TAPE, which is empty then, is the VALLEY in place of the one there was");
        MostCocks x = five();
        x.fell(1, true);
        due("a smaller one", valley(x, "cock 1 2 3 44 1 6"), 1);
        due("bytes", x.count(5), 0);
        same("all", state(x), "counts 1 0 2 0 0 0 44; cock 1 2 3 44 1 6 6; worth" + " 0".repeat(32));
        due("the COCK behind", x.cock(1, 0), NONE);
        due("the TREE ahead", x.tree(0, 0), NONE);
        due("one with TREES", valley(x, FIVE), 5);
        due("which stand", x.count(3), 0);
        valley(x, "cock 5 5 0 0 0 0;worth 0 0 9;worth 3 7 9;tree 5 3;tree 5 4");
        valley(x, "cock 5 5 0 0 0 0;tree 0 0");
        due("no lee of the TREES ahead", x.lee(0, 0), 0);
        due("no worth of the first", x.worth(0, 0), 0);
        due("no worth of the last", x.worth(3, 7), 0);
        valley(x, "cock 0 0 0 0 0 0;worth 0 0 9;tree 0 0;");
        valley(x, "cock 0 1 0 0 0 0");
        due("no lee of a text with a FAULT", x.lee(0, 0), 0);
        due("no worth of a text with a FAULT", x.worth(0, 0), 0);

        sentence(4, "(MORNING: what all say; x stays):");
        x = five();
        x.seed(77);
        x.bend(0, 5);
        valley(x, FIVE);
        int[] says = {2, 2, 4, 4, 6};
        for (int cock = 0; cock < 5; cock++) due("MORNING of " + cock, x.cock(cock, 6), says[cock]);
        due("all say so", x.morning(), 0);
        due("x", x.count(4), 77);
        valley(x, "cock");
        due("x behind a FAULT", x.count(4), 77);

        sentence(4, "how many COCKS;");
        x = new MostCocks();
        due("one", valley(x, "cock 0 0 0 0 0 0"), 1);
        due("two", valley(x, "cock 0 0 0 0 0 0;tree 1 1;cock 0 0 0 0 0 0"), 2);
        due("twelve", valley(x, "cock 0 0 0 0 0 0;".repeat(11) + "cock 0 0 0 0 0 0"), 12);

        sentence(4, "-2 - its FAULT, and all stays.");
        x = new MostCocks();
        due("the least FAULT", x.valley(), -3);
        due("behind 16 bytes", valley(x, "cock 1 2 3 4 1 6x"), -2 - (1 + 8 * 16));
        due("there is no VALLEY yet", x.count(0), 0);
        for (String fault : new String[] {"", "cock 1 1 1 1 1 1;", "cock 1 1 1 1 1 1;tree 1 1;worth 0 2 1;worth 0 4 100"}) {
            x = lived();
            x.end(0);
            String was = state(x);
            due("valley '" + fault + "' has a FAULT", valley(x, fault) < -2, true);
            same("all behind '" + fault + "' (and the TAPE is empty)", state(x), was);
            due("the IMAGE stays", x.back(2), 5);
        }
    }

    private static void laws() {
        sentence(5, "The TAPE, which is empty then, is a LAW: its number;");
        MostCocks x = told("cock 0 0 0 0 0 0");
        for (int i = 0; i < 6; i++) {
            due("law", law(x, "turn " + i), i);
            due("bytes", x.count(5), 0);
            due("laws", x.count(2), i + 1);
        }
        for (int i = 0; i < 5; i++) due("VOTE by law " + i, x.after(i, 4, 1, 0, 0), i);
        due("POINT by the last law", x.after(5, 3, 1, 0, 0), 3);

        sentence(5, "-2 - its FAULT;");
        x = told("cock 0 0 0 0 0 0");
        due("the least FAULT", x.law(), -3);
        due("a FAULT", law(x, "turn 2;turn"), -2 - (1 + 8 * 11));
        due("bytes", x.count(5), 0);
        due("laws", x.count(2), 0);
        due("no such law", x.blow(0, 0, 1), NONE);
        due("the next has its number", law(x, "turn 1"), 0);
        due("a FAULT again", law(x, "turn 2;turn"), -2 - (1 + 8 * 11));
        due("the law ahead stays", x.after(0, 4, 1, 0, 0), 1);
        due("no second law", x.after(1, 4, 1, 0, 0), NONE);
        due("one more", law(x, "turn 1 if 1=2;turn 3;turn 3;x"), -2 - (1 + 8 * 28));
        due("a shorter one in its place", law(x, "turn 1 if 1=2"), 1);
        due("nothing of the one ahead stays", x.after(1, 4, 1, 0, 0), 0);

        sentence(5, "NONE, and nothing happens: there are 6.");
        x = told("cock 0 0 0 0 0 0", "turn 0", "turn 1", "turn 2", "turn 3", "turn 4", "turn 3");
        for (String text : new String[] {"turn 1", "turn", ""}) {
            tell(x, text);
            String was = state(x);
            due("a seventh", x.law(), NONE);
            same("all, and the bytes", state(x), was);
            x.end(0);
        }
        tell(x, "cock 1 1 1 1 1 7");
        due("a seventh", x.law(), NONE);
        due("the TAPE is still a VALLEY", x.valley(), 1);
        due("the last law stays", x.after(5, 3, 1, 0, 0), 2);
        due("no law 6", x.after(6, 3, 1, 0, 0), NONE);
    }

    private static void valleyClauses() {
        term("A VALLEY is a text of at most 400 bytes:");
        MostCocks x = new MostCocks();
        due("400 bytes", valley(x, "cock 1 2 3 4 1" + blank(385) + "6"), 1);
        due("the last byte", x.cock(0, 5), 6);
        valleyFault(blank(400) + "^", 0);

        // 1 COCK, 12 TREES and 26 worths are 397 bytes: a 40th CLAUSE can begin, but has no room, a 41st not even begin
        term("CLAUSE { ; CLAUSE }, 40 at most:");
        StringBuilder text = new StringBuilder("cock0 0 0 0 0 0" + ";tree0 0".repeat(12));
        for (int i = 0; i < 26; i++) text.append(";worth").append(i / 8).append(' ').append(i % 8).append(' ').append(i % 9 + 1);
        due("39 CLAUSES", valley(x, text.toString()), 1);
        for (int i = 0; i < 32; i++) due("worth " + i, x.worth(i / 8, i % 8), i < 26 ? i % 9 + 1 : 0);
        due("in any order", valley(x, "worth 0 0 7;tree 1 1;cock 1 2 3 4 1 6;tree 2 2;cock 1 2 3 4 1 6"), 2);
        valleyFault("^;cock 0 0 0 0 0 0", 0);
        valleyFault("cock 0 0 0 0 0 0;^", 0);
        valleyFault("cock 0 0 0 0 0 0;^;tree 0 0", 0);
        valleyFault("cock 0 0 0 0 0 0 ^tree 0 0", 0);
        valleyFault("cock 0 0 0 0 0 0^,tree 0 0", 0);
        valleyFault("cock 0 0 0 0 0 0^[tree 0 0", 0);
        valleyFault("tree0 0;".repeat(12) + "worth0 0 0;".repeat(27) + "worth^", 0);
        valleyFault("^" + ";".repeat(400), 0);

        term("COCKS 0 to 11, TREES 0 to 11, in the order told");
        text = new StringBuilder();
        for (int i = 0; i < 12; i++) text.append("tree").append(i % 10).append(' ').append(i / 10).append(";cock").append(i % 10)
                .append(' ').append(i / 10).append(" 0 ").append(i + 10).append(" 0 0").append(i < 11 ? ";" : "");
        due("twelve of each", valley(x, text.toString()), 12);
        for (int i = 0; i < 12; i++) {
            due("AGE of " + i, x.cock(i, 3), i + 10);
            due("x of TREE " + i, x.tree(i, 0), i % 10);
            due("y of TREE " + i, x.tree(i, 1), i / 10);
        }
        due("COCK 12", x.cock(12, 0), NONE);
        due("TREE 12", x.tree(12, 0), NONE);

        term("(several may stand at one place);");
        due("all at one place", valley(x, "cock 4 4 0 0 0 0;tree 4 4;cock 4 4 0 0 0 1;tree 4 4"), 2);
        due("the second", x.cock(1, 5), 1);
        due("the trees", x.count(1), 2);

        term("at least one COCK.");
        valleyFault("^", 0);
        valleyFault("tree 1 1;worth 0 0 1^", 0);
        due("one behind all else", valley(x, "tree 1 1;worth 0 0 1;cock 1 1 1 1 1 1"), 1);
    }

    private static void valleyNumbers() {
        term("cock NUMBER NUMBER NUMBER NUMBER NUMBER NUMBER (x, y, 0 to 9 each;");
        MostCocks x = told("cock 1 2 3 44 0 6;cock 9 9 9 99 3 7;cock 0 0 0 0 0 0");
        int[][] cocks = {{1, 2, 3, 44, 0, 6}, {9, 9, 9, 99, 3, 7}, {0, 0, 0, 0, 0, 0}};
        for (int i = 0; i < 18; i++) due("cock " + i / 6 + " " + i % 6, x.cock(i / 6, i % 6), cocks[i / 6][i % 6]);
        valleyFault("cock ^10 0 0 0 0 0", 1);
        valleyFault("cock 0 ^10 0 0 0 0", 1);
        valleyFault("cock 0 0 0 0 0^", 0);
        valleyFault("cock 0 0 0 0 0^;tree 1 1", 0);
        valleyFault("cock 0 0 0 0 0 0 ^0", 0);
        valleyFault("cock ^-1 0 0 0 0 0", 0);
        term("RUST 0 to 9,");
        due("9", told("cock 0 0 9 0 0 0").cock(0, 2), 9);
        due("0", told("cock 1 1 0 1 1 1").cock(0, 2), 0);
        valleyFault("cock 0 0 ^10 0 0 0", 1);
        term("AGE 0 to 99,");
        due("99", told("cock 0 0 0 99 0 0").cock(0, 3), 99);
        due("0", told("cock 1 1 1 0 1 1").cock(0, 3), 0);
        valleyFault("cock 0 0 0 ^100 0 0", 1);
        term("OWNER 0 to 3,");
        due("3", told("cock 0 0 0 0 3 0").cock(0, 4), 3);
        due("0", told("cock 1 1 1 1 0 1").cock(0, 4), 0);
        valleyFault("cock 0 0 0 0 ^4 0", 1);
        term("the POINT it says)");
        due("7", told("cock 0 0 0 0 0 7").cock(0, 5), 7);
        due("0", told("cock 1 1 1 1 1 0").cock(0, 5), 0);
        valleyFault("cock 0 0 0 0 0 ^8", 1);

        term("| tree NUMBER NUMBER (x, y, 0 to 9 each)");
        x = told("cock 0 0 0 0 0 0;tree 0 9;tree 9 0");
        due("x", x.tree(0, 0), 0);
        due("y", x.tree(0, 1), 9);
        due("x", x.tree(1, 0), 9);
        due("y", x.tree(1, 1), 0);
        valleyFault("tree ^10 0;cock 0 0 0 0 0 0", 1);
        valleyFault("tree 0 ^10;cock 0 0 0 0 0 0", 1);
        valleyFault("tree 0^;cock 0 0 0 0 0 0", 0);
        valleyFault("tree 0 0 ^0;cock 0 0 0 0 0 0", 0);

        term("| worth NUMBER NUMBER NUMBER (of an OWNER 0 to 3 a POINT: 0 to 99;");
        x = told("cock 0 0 0 0 0 0;worth 0 0 99;worth 3 7 98;worth 1 2 0;worth 2 1 5");
        due("of 0 the first", x.worth(0, 0), 99);
        due("of 3 the last", x.worth(3, 7), 98);
        due("nothing", x.worth(1, 2), 0);
        due("of 2", x.worth(2, 1), 5);
        valleyFault("worth ^4 0 0;cock 0 0 0 0 0 0", 1);
        valleyFault("worth 0 ^8 0;cock 0 0 0 0 0 0", 1);
        valleyFault("worth 0 0 ^100;cock 0 0 0 0 0 0", 1);
        valleyFault("worth 0 0^;cock 0 0 0 0 0 0", 0);
        valleyFault("worth 0 0 0 ^0;cock 0 0 0 0 0 0", 0);
        term("0 without;");
        for (int i = 0; i < 32; i++) due("worth " + i, told("cock 0 0 0 0 0 0").worth(i / 8, i % 8), 0);
        term("of one the last told).");
        x = told("worth 1 3 50;worth 1 4 9;worth 1 3 70;cock 0 0 0 0 0 0;worth 1 3 60");
        due("told three times", x.worth(1, 3), 60);
        due("another", x.worth(1, 4), 9);
        due("0 at last", told("worth 1 3 50;cock 0 0 0 0 0 0;worth 1 3 0").worth(1, 3), 0);
    }

    private static void tests() {
        term("LAWS 0 to 5:");
        MostCocks x = told(FIVE, "turn 1", "turn 1", "turn 1", "turn 1", "turn 1", "turn 1");
        due("by 0", x.blow(0, 0, 1), 5);
        due("by 5", x.blow(5, 0, 1) > 0, true);
        due("by 6", x.blow(6, 0, 1), NONE);

        term("texts likewise, 12 CLAUSES at most: turn SUM [ if TEST ].");
        isLaw("turn" + blank(395) + "1");
        lawFault(blank(400) + "^", 0);
        isLaw("turn 1;".repeat(11) + "turn 1");
        lawFault("turn 1;".repeat(12) + "^turn 1", 4);
        turns("turn 1 if 1=2;".repeat(11) + "turn 2", 1, 2);
        lawFault("^", 0);
        lawFault("turn 1;^", 0);
        lawFault("turn 1;^;turn 1", 0);
        lawFault("turn 1^[turn 1", 0);
        lawFault("^" + ";".repeat(400), 0);
        lawFault("turn 1 ^turn 1", 0);
        lawFault("turn^", 0);
        lawFault("turn ^if 1=1", 0);
        lawFault("turn 1 if^", 0);
        lawFault("turn 1 if 1=1 ^if 1=1", 0);
        lawFault("turn ^[1]", 0);

        term("TEST: PART { or PART }.");
        holds("1=1 or 1=2", true);
        holds("1=2 or 1=1", true);
        holds("1=2 or 1=2", false);
        holds("1=1 or 1=1", true);
        holds("1=2 or 1=2 or 1=2 or 1=1", true);
        holds("1=1 or 1=2 and 1=2", true);
        lawFault("turn 1 if 1=1 or^", 0);
        lawFault("turn 1 if ^or 1=1", 0);
        term("PART: FACT { and FACT }.");
        holds("1=1 and 1=1", true);
        holds("1=1 and 1=2", false);
        holds("1=2 and 1=1", false);
        holds("1=2 and 1=2", false);
        holds("1=1 and 1=1 and 1=1 and 1=2", false);
        holds("1=2 and 1=2 or 1=1", true);
        holds("1=2 and 1=2 or 1=1 and 1=1", true);
        lawFault("turn 1 if 1=1 and^", 0);
        lawFault("turn 1 if 1=1 and ^or 1=1", 0);
        term("FACT: not FACT |");
        holds("not 1=2", true);
        holds("not 1=1", false);
        holds("not not 1=1", true);
        holds("not not not 1=1", false);
        holds("not 1=2 and 1=2", false);
        holds("not 1=1 or 1=1", true);
        lawFault("turn 1 if not^", 0);
        lawFault("turn 1 if 1=1 ^not 1=1", 0);
        term("[ TEST ] (these brackets are signs) |");
        holds("[1=1]", true);
        holds("[1=1 or 1=1] and 1=2", false);
        holds("1=2 and [1=2 or 1=1]", false);
        holds("not [1=2 or 1=1]", false);
        holds("not [1=2 and 1=1]", true);
        holds("[[1=2 or 1=1] and [1=1]] and 1=1", true);
        lawFault("turn 1 if [^]", 0);
        lawFault("turn 1 if ^;1=1]", 0);
        lawFault("turn 1 if [1=1^;", 0);
        lawFault("turn 1 if [1=1^", 0);
        lawFault("turn 1 if 1=1^]", 0);
        lawFault("turn 1 if [1^]=1", 0);
        lawFault("turn 1 if ^(1=1)", 0);
        term("SUM SIGN SUM, SIGN one of < <= = >= >.");
        String[] signs = {"<", "<=", "=", ">=", ">"};
        boolean[][] due = {{true, false, false}, {true, true, false}, {false, true, false}, {false, true, true}, {false, false, true}};
        for (int i = 0; i < 15; i++) {
            String fact = i % 3 + 1 + signs[i / 3] + 2;
            holds(fact, due[i / 3][i % 3]);
            holds("not " + fact, !due[i / 3][i % 3]);
            holds("1=1 and " + fact, due[i / 3][i % 3]);
            holds("1=2 or " + fact, due[i / 3][i % 3]);
        }
        holds("1+1 = 3-1", true);
        holds("0-1 < 0", true);
        lawFault("turn 1 if 1^", 0);
        lawFault("turn 1 if 1=^", 0);
        lawFault("turn 1 if ^=1", 0);
        lawFault("turn 1 if 1=^=1", 0);
        lawFault("turn 1 if 1=^<1", 0);
        lawFault("turn 1 if 1<=^=1", 0);
        lawFault("turn 1 if 1<^>1", 0);
        lawFault("turn 1 if 1< ^=1", 0);
        lawFault("turn 1 if 1=1^=1", 0);
    }

    private static void sums() {
        term("SUM: TERM { (+ or -) TERM }.");
        holds("10-3-2=5", true);
        holds("10-3+2=9", true);
        holds("10+3-2=11", true);
        holds("2+3*4=14", true);
        holds("20-6/3-1=17", true);
        lawFault("turn 1+^", 0);
        lawFault("turn ^+1", 0);
        lawFault("turn ^-1", 0);
        lawFault("turn 1+^+1", 0);
        term("TERM: VALUE { (* or /) VALUE }.");
        holds("2*3+4=10", true);
        holds("20/2/5=2", true);
        holds("20/2*5=50", true);
        holds("3*7/2=10", true);
        holds("7/2*3=9", true);
        holds("2*3*4=24", true);
        lawFault("turn 1*^", 0);
        lawFault("turn ^*1", 0);
        lawFault("turn 1/^*1", 0);
    }

    private static void values() {
        term("VALUE: NUMBER (1 to 5 digits, as far as digits go on) |");
        turns("turn 2", 1, 2);
        turns("turn 00002", 1, 2);
        holds("99999-99998=1", true);
        holds("12345=10000+2345", true);
        holds("0=00000", true);
        lawFault("turn ^000002", 1);
        lawFault("turn ^100000", 1);
        lawFault("turn ^" + "9".repeat(395), 1);
        lawFault("turn 1 ^2", 0);
        due("digits of a POINT", told("cock0001 00002 3 4 1 06").cock(0, 5), 6);
        valleyFault("cock 0 0 0 0 0 ^000006", 1);
        term("WORD.");
        isLaw("turn rust");
        lawFault("turn ^x", 0);
        lawFault("turn ^tree", 0);
        lawFault("turn ^worth", 0);
        lawFault("turn ^turn", 0);
        lawFault("turn ^not", 0);
        lawFault("turn ^and", 0);
        lawFault("turn ^or", 0);
        isLaw("turn cock+rust+age+owner+at+off+wind+lee+hour");

        term("WORDS (small letters, as far as these go on)");
        lawFault("^turnoff", 0);
        lawFault("^tur 1", 0);
        lawFault("^turns 1", 0);
        lawFault("turn ^rustrust", 0);
        lawFault("turn ^rus", 0);
        lawFault("turn ^ownerx", 0);
        lawFault("turn ^offz", 0);
        lawFault("turn ^offa", 0);
        lawFault("turn ^zoff", 0);
        lawFault("turn off^{", 0);
        lawFault("turn off^`", 0);
        lawFault("turn 1^:", 0);
        lawFault("turn 1 ^ifrust=1", 0);
        lawFault("turn rust^1", 0);
        lawFault("turn rust^Z", 0);
        lawFault("^Turn 1", 0);
        lawFault("turn ^RUST", 0);
        isLaw("turn1if1=1and2=2or not3=3");
        valleyFault("^cocks 0 0 0 0 0 0", 0);
        valleyFault("^coc 0 0 0 0 0 0", 0);
        valleyFault("^COCK 0 0 0 0 0 0", 0);
    }

    private static void words() {
        term("of a COCK in a WIND: cock (its number),");
        holds("cock=1", true);
        MostCocks x = told("cock 0 0 0 0 0 0;".repeat(11) + "cock 0 0 0 0 0 0", "turn 1 if cock=0 or cock=11");
        due("the first and the last", x.blow(0, 4, 1), 2);
        due("the last", x.cock(11, 5), 1);
        term("rust,");
        holds("rust=2", true);
        term("age,");
        holds("age=42", true);
        term("owner,");
        holds("owner=3", true);
        term("at (the POINT it says),");
        holds("at=0", true);
        turns("turn 1 if at=0 or at=1", 3, 2);
        due("7", told("cock 0 0 0 0 0 7", "turn 1 if at=7").after(0, 6, 1, 0, 0), 6);
        term("off (from the WIND),");
        holds("off=3", true);
        turns("turn 1 if off>1", 3, 2);
        due("round the north", told("cock 0 0 0 0 0 7", "turn 1 if off=2").after(0, 1, 1, 0, 0), 0);
        due("half round", told("cock 0 0 0 0 0 7", "turn 1 if off=4").after(0, 3, 1, 0, 0), 0);
        term("wind,");
        holds("wind=3", true);
        due("7", told("cock 0 0 0 0 0 5", "turn 1 if wind=7").after(0, 7, 1, 0, 0), 6);
        term("lee (TREES that are 1, 2 or 3 steps from it towards the POINT of the WIND, at each just there),");
        holds("lee=1", true);
        x = told("cock 4 4 0 0 0 0;tree 4 4;tree 5 4;tree 6 4;tree 7 4;tree 8 4;tree 7 4;tree 6 3;tree 6 5;tree 3 4");
        due("1, 2, 3, 3, not 0 or 4, not beside", x.lee(0, 2), 4);
        due("behind", x.lee(0, 6), 1);
        x = told("cock 4 4 0 0 0 0;tree 5 5;tree 6 6;tree 7 7;tree 8 8;tree 5 6;tree 6 5");
        due("slanting", x.lee(0, 3), 3);
        x = told("cock 0 0 0 0 0 0;tree 0 9;tree 9 0;tree 9 9;tree 0 7;tree 7 0");
        for (int wind = 0; wind < 8; wind++) due("the border is no way round, " + wind, x.lee(0, wind), 0);
        term("hour (0 the first one).");
        holds("hour=0", true);
        turns("turn 1 if hour=0", 24, 1);
        turns("turn 1 if hour=23", 24, 1);
        turns("turn 1 if hour=23", 23, 0);
        turns("turn 1 if hour>23", 24, 0);
    }

    private static void arithmetic() {
        // 99999 * 99999 * 99999 * 9225 is 2 to the 63rd and more, and odd: it goes round to a number below 0
        String below = "99999*99999*99999*9225";
        term("/ is towards 0,");
        holds("7/2=3", true);
        holds("1/2=0", true);
        holds(below + "<0", true);
        holds(below + "/2*2=" + below + "+1", true);
        term("0 by 0;");
        holds("5/0=0", true);
        holds("0/0=0", true);
        holds("5/0+1=1", true);
        holds("5/hour=0", true);
        holds(below + "/0=0", true);
        term("all goes round in 64 bits.");
        // 2 to the 62nd, 63rd, 64th
        holds("65536*65536*65536*16384>0", true);
        holds("65536*65536*65536*32768<0", true);
        holds("65536*65536*65536*65536=0", true);
        holds("65536*65536*65536*16384+65536*65536*65536*16384<0", true);
        holds("65536*65536*65536*32768-1>0", true);
        holds("65536*65536>65535*65536", true);
        holds("99999*99999=99998*99998+99998+99999", true);
    }

    private static void blanks() {
        term("Blanks (32) stand between as one likes.");
        due("none where none is needed", valley(new MostCocks(), "cock1 2 3 4 1 6;tree1 1;worth1 1 1"), 1);
        due("many", valley(new MostCocks(), "  cock  1   2 3 4  1 6  ;  tree 1  1  ; worth  1 1 1  "), 1);
        isLaw("turn1if[not1=1or2<=3]and4>5");
        isLaw("  turn  1  +  2  if  [  not  1  =  1  or  2  <=  3  ]  ;  turn  1  ");
        lawFault("^tu rn 1", 0);
        lawFault("turn ^ru st", 0);
        lawFault("turn 1 ^0", 0);
        lawFault("turn^\t1", 0);
        lawFault("turn 1^\n", 0);
        lawFault("turn 1^" + (char) 0, 0);
        lawFault("turn^" + (char) 160 + "1", 0);
        valleyFault("cock 1 1 1 1 1 1^\t", 0);
        valleyFault("^" + (char) 0 + "cock 1 1 1 1 1 1", 0);
    }

    private static void limits() {
        term("[ and not lie within one another 10 deep at most;");
        holds("[".repeat(10) + "1=1" + "]".repeat(10), true);
        holds("not ".repeat(10) + "1=1", true);
        holds("[not ".repeat(5) + "1=1" + "]".repeat(5), false);
        lawFault("turn 1 if [[[[[[[[[[^[1=1]]]]]]]]]]]", 2);
        lawFault("turn 1 if " + "not ".repeat(10) + "^not 1=1", 2);
        lawFault("turn 1 if " + "[not ".repeat(5) + "^[1=1]", 2);
        lawFault("turn 1 if " + "not [".repeat(5) + "^not 1=1", 2);
        holds("[".repeat(10) + "1=1" + "]".repeat(10) + " and " + "[".repeat(10) + "1=1" + "]".repeat(10), true);
        holds("not ".repeat(10) + "1=1 or " + "not ".repeat(10) + "1=1", true);
        holds("[".repeat(9) + "not 1=2 and not 1=2 and [1=1]" + "]".repeat(9), true);
        lawFault("turn 1 if " + "[".repeat(9) + "[1=1] and [1=1 or ^[", 2);
        isLaw("turn 1 if " + "[".repeat(10) + "1=1" + "]".repeat(10) + ";turn 1 if " + "[".repeat(10) + "1=1" + "]".repeat(10));

        term("at most 60 VALUES and FACTS made of a SIGN, together.");
        isLaw("turn 1" + "+1".repeat(59));
        lawFault("turn 1" + "+1".repeat(59) + "+^1", 3);
        lawFault("turn at" + "*at".repeat(59) + "*^at", 3);
        isLaw("turn 1" + "+1".repeat(56) + " if 1=1");
        lawFault("turn 1" + "+1".repeat(57) + " if 1=^1", 3);
        lawFault("turn 1" + "+1".repeat(58) + " if 1^=1", 3);
        lawFault("turn 1" + "+1".repeat(59) + " if ^1=1", 3);
        isLaw("turn 1" + "+1".repeat(29) + ";turn 1" + "+1".repeat(29));
        lawFault("turn 1" + "+1".repeat(29) + ";turn 1" + "+1".repeat(29) + "+^1", 3);
        isLaw("turn 1 if not 1=1" + " and not [1=1]".repeat(18) + ";turn 1;turn 1");
        lawFault("turn 1 if not 1=1" + " and not [1=1]".repeat(18) + ";turn 1;turn 1;turn ^1", 3);
        MostCocks x = new MostCocks();
        for (int i = 0; i < 3; i++) due("of each LAW for itself", law(x, "turn 1" + "+1".repeat(59)), i);
    }

    private static void faults() {
        term("FAULTS, the first along the text, 1 + 8 * its place and:");
        lawFault("turn ^x + 123456", 0);
        lawFault("turn ^123456 + x", 1);
        lawFault("turn 1 if ^x=1;turn 123456", 0);
        lawFault("turn 1 if " + "[".repeat(10) + "^[1=123456", 2);
        lawFault("turn 1 if ^123456=1 and " + "[".repeat(11), 1);
        lawFault("turn 1" + "+1".repeat(59) + "+^1 if x;", 3);
        lawFault("turn 1;".repeat(12) + "^turn x", 4);
        valleyFault("tree 0 ^10", 1);
        valleyFault("cock ^10 0 0 x", 1);
        valleyFault("cock 0 0 0 0 0 0;".repeat(12) + "^cock 10;tree 10", 4);
        valleyFault("   ^x", 0);
        due("place 0", valley(new MostCocks(), "x"), -2 - 1);
        due("place 1", valley(new MostCocks(), " x"), -2 - 9);
        due("place 399", valley(new MostCocks(), blank(399) + "x"), -2 - (1 + 8 * 399));
        due("place 400", valley(new MostCocks(), blank(400)), -2 - (1 + 8 * 400));
        MostCocks x = new MostCocks();
        due("a text", law(x, "turn 1 if x"), -2 - (1 + 8 * 10));
        due("the next one has its own", law(x, "turn x"), -2 - (1 + 8 * 5));
    }

    private static void faultKinds() {
        term("0 a byte or WORD that can't stand there, or the end (behind the last byte; also without a COCK);");
        valleyFault("cock 0 0 ^x 0 0 0", 0);
        valleyFault("cock 0 0 ^; 0 0 0", 0);
        valleyFault("cock 0 0 ^turn 0 0", 0);
        valleyFault("cock 0 0 ^" + (char) 255, 0);
        valleyFault("^turn 1", 0);
        valleyFault("^rust 1", 0);
        valleyFault("^1", 0);
        valleyFault("cock 0 0  ^", 0);
        valleyFault("tree 0 0^", 0);
        valleyFault("tree 0 0  ^", 0);
        lawFault("^cock 0 0 0 0 0 0", 0);
        lawFault("turn 1 if 1=1 ^1", 0);
        lawFault("turn 1 ^else", 0);
        lawFault("turn 1 +  ^", 0);
        lawFault("turn 1^!", 0);

        term("1 a NUMBER of more digits, or not as told;");
        lawFault("turn 1+^000000", 1);
        lawFault("turn 1 if 1=^1234567", 1);
        valleyFault("cock ^000000 0 0 0 0 0", 1);
        valleyFault("cock 0 0 0 ^99999 0 0", 1);
        valleyFault("worth 0 0 ^000000", 1);

        term("2 too deep (at the sign that opens, or the word not);");
        lawFault("turn 1 if [[[[[[[[[[  ^[x", 2);
        lawFault("turn 1 if [[[[[[[[[[  ^not x", 2);
        lawFault("turn 1 if [[[[[[[[[[^[", 2);

        term("3 one VALUE or FACT too many (at its first byte; of a FACT at its SIGN);");
        lawFault("turn 1" + "+1".repeat(59) + "+  ^age", 3);
        lawFault("turn 1" + "+1".repeat(59) + "+  ^12345", 3);
        lawFault("turn 1" + "+1".repeat(58) + " if 12345  ^<= 1", 3);
        lawFault("turn 1" + "+1".repeat(58) + " if 12345  ^>1", 3);

        term("4 one CLAUSE too many, a 13th COCK, a 13th TREE (at its first byte).");
        lawFault("turn 1;".repeat(12) + "  ^turn 1", 4);
        valleyFault("cock 0 0 0 0 0 0;".repeat(12) + "  ^cock 0 0 0 0 0 0", 4);
        valleyFault("tree 0 0;".repeat(12) + "  ^tree 0 0;cock 0 0 0 0 0 0", 4);
        valleyFault("cock0 0 0 0 0 0;".repeat(12) + "tree0 0;".repeat(12) + "^cock0 0 0 0 0 0", 4);
        lawFault("turn 1;".repeat(12) + "^", 0);
        valleyFault("cock 0 0 0 0 0 0;".repeat(12) + "^", 0);
    }

    private static void faultsAtOnePlace() {
        term("Of one place the least.");
        // no NUMBER can stand there (0), and it has more digits (1)
        lawFault("turn 1 ^123456", 0);
        valleyFault("cock 0 0 0 0 0 0 ^123456", 0);
        // a NUMBER of more digits (1) or no WORD (0) is also one VALUE too many (3)
        lawFault("turn 1" + "+1".repeat(59) + "+^123456", 1);
        lawFault("turn 1" + "+1".repeat(59) + "+^x", 0);
        lawFault("turn 1" + "+1".repeat(58) + " if 1^;", 0);
        // no WORD that opens a CLAUSE (0), and one CLAUSE, COCK or TREE too many (4)
        lawFault("turn 1;".repeat(12) + "^burn 1", 0);
        lawFault("turn 1;".repeat(12) + "^;", 0);
        valleyFault("cock 0 0 0 0 0 0;".repeat(12) + "^cocks", 0);
        valleyFault("tree 0 0;".repeat(12) + "^trees", 0);
        // no FACT can stand there (0), and it is too deep (2)
        lawFault("turn 1 if " + "[".repeat(10) + "1 ^[", 0);
        lawFault("turn 1 if " + "not ".repeat(10) + "1 ^not", 0);
    }
}
