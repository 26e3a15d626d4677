/** Promises 1 to 5, and what "Terms" says of a RIVER's text: one test for each sentence that names a boundary case. */
final class RiverBoundary extends Boundary {
    private static final String BUSY = "water 5 by 3;current 1 at 1 0;current 2 at 2 1;iron 4 2;"
        + "board ann wide 10 at 1 bears 4;board bob wide 6 at 3;"
        + "load a wide 5;load b wide 4;load c wide 6;load d wide 2;heat 1+load/5;flood 30;draw 9;";
    private static final String[] LINES = {"water 3 by 2 ;", "current 1 at 0 0 ;", "iron 0 1 ;", "board b wide 5 at 0 ;",
        "board b wide 5 at 0 bears 9 ;", "load c wide 5 ;", "heat 1 ;", "flood 5 ;", "draw 5 ;"};
    private static final String[] OWN_WORDS = {"water", "by", "current", "at", "iron", "board", "wide", "bears", "load", "heat",
        "flood", "draw", "or", "and", "not", "row", "column", "strokes", "hot"};
    private static final String SIGNS = ";()<>=+-*/%";

    private RiverBoundary() {
    }

    static void run() {
        calls();
        constant();
        newObject();
        feeding();
        fullTape();
        ending();
        endRefused();
        tapeIsEmptied();
        allAsTold();
        noActsAreKept();
        nothingIsSeen();
        nothingLies();
        boxesAreEmpty();
        timeStays();
        howManyBoards();
        faultLeavesAll();
        faultOfTheLatest();
        faultOfAnotherWhat();
        textLength();
        anyLines();
        lineForms();
        anyOfBoth();
        bothOfOnes();
        oneForms();
        sums();
        termForms();
        unitForms();
        wordLength();
        numberLength();
        signs();
        blanks();
        longestTokens();
        letterBehindNumber();
        ownWords();
        water();
        cells();
        currents();
        irons();
        boards();
        loads();
        numbering();
        onceEach();
        units();
        depth();
        firstFault();
        leastFault();
        noToken();
        cannotStand();
        unitTooMany();
        toldAlready();
        numberCannotBe();
    }

    // what holds for all

    private static void calls() {
        all("An object is used for at most 512 calls after it has been made; what later calls answer is free.");
        BoardCrossing x = told("water 1 by 1;board b wide 1 at 0;");
        // Telling it took five calls: how much is on the tape, feed twice, end, river.
        for (int i = 0; i < 506; i++) {
            due("stroke " + i, i % 21 == 20 ? 2 : 0, x.stroke(0, 0, i % 2 == 0));
        }
        due("STROKES by the 512th call", 506, x.board(0, 4));
    }

    private static void constant() {
        terms("1", "The constants: `NONE = -1`: There is none.");
        due("NONE", -1, BoardCrossing.NONE);
        due("hottest() of none", BoardCrossing.NONE, new BoardCrossing().hottest());
    }

    // promise 1

    private static void newObject() {
        promise(1, "An empty RIVER (8 by 6).");
        BoardCrossing x = new BoardCrossing();
        int[] want = {0, 0, 8, 6, 0, 0, 0, 0, 0, 0, 0, 0, 0};
        for (int what = 0; what < want.length; what++) {
            due("about(" + what + ")", want[what], x.about(what));
        }
        due("spot(7, 6, 0)", 0, x.spot(7, 6, 0));
        due("spot(7, 6, 1)", 0, x.spot(7, 6, 1));
        due("spot(8, 6, 0)", -1, x.spot(8, 6, 0));
        due("spot(7, 7, 0)", -1, x.spot(7, 7, 0));
        due("board(0, 0)", -1, x.board(0, 0));
        due("load(0, 0)", -3, x.load(0, 0));
        due("undo()", false, x.undo());
        due("redo()", false, x.redo());
        due("lies(0)", -2, x.lies(0));
        due("back(0)", -1, x.back(0));
        due("stroke(0, 0, true)", -1, x.stroke(0, 0, true));
        due("landings(0)", -1, x.landings(0));
        due("trips(0)", -1, x.trips(0));
        due("stowing()", 0, x.stowing());
        due("mooring(0)", 0, x.mooring(0));
        due("about(12) behind mooring(0)", 0, x.about(12));
        due("over()", 0, x.over());
        due("left()", 0, x.left());
        due("pulled()", 0, x.pulled());
        due("law(99)", 0, x.law(99));
        due("river() of nothing", 0, x.river());
    }

    // promises 2 and 3

    private static void feeding() {
        promise(2, "Twenty bytes come behind those on the TAPE, of each number the highest first: how many there are;");
        BoardCrossing x = new BoardCrossing();
        due("feed \"water 3 by 2;draw 7;\"", 20, x.feed(0x77617465, 0x72203320, 0x62792032, 0x3b647261, 0x7720373b));
        due("feed \"flood 9;load ab wide\"", 40, x.feed(0x666c6f6f, 0x6420393b, 0x6c6f6164, 0x20616220, 0x77696465));
        due("feed \" 77;\" and blanks", 60, x.feed(0x2037373b, 0x20202020, 0x0a0a0a0a, 0x20202020, 0x2020200a));
        due("river()", 0, x.river());
        due("COLUMNS", 3, x.about(2));
        due("STROKES", 2, x.about(3));
        due("the SEED", 7, x.about(5));
        due("flood", 9, x.about(4));
        due("load(0, 0)", 77, x.load(0, 0));
        for (int place = 0; place < 20; place++) {
            int[] n = {0x20202020, 0x20202020, 0x20202020, 0x20202020, 0x20202020};
            n[place / 4] ^= (0xa0 ^ 0x20) << 24 - place % 4 * 8;
            x.feed(n[0], n[1], n[2], n[3], n[4]);
            due("byte 160 at " + place, -1, x.river());
            due("its place", place, x.fault(1));
        }
    }

    private static void fullTape() {
        promise(2, "NONE, and nothing comes, if there would be more than 1,600.");
        BoardCrossing x = new BoardCrossing();
        Check.feed(x, " ".repeat(1593) + "draw 7;");
        due("about(10)", 1600, x.about(10));
        due("feed at 1,600", -1, x.feed(0x24242424, 0x24242424, 0x24242424, 0x24242424, 0x24242424));
        due("about(10)", 1600, x.about(10));
        due("river()", 0, x.river());
        due("the SEED", 7, x.about(5));
        Check.feed(x, " ".repeat(1574) + "draw 8;");
        due("about(10)", 1581, x.about(10));
        due("feed at 1,581", -1, x.feed(0x24242424, 0x24242424, 0x24242424, 0x24242424, 0x24242424));
        due("about(10)", 1581, x.about(10));
        due("river()", 0, x.river());
        due("the SEED", 8, x.about(5));
        Check.feed(x, " ".repeat(1573) + "draw 9;");
        due("about(10)", 1580, x.about(10));
        due("feed at 1,580", 1600, x.feed(0x20202020, 0x20202020, 0x20202020, 0x20202020, 0x20202024));
        due("river()", -1, x.river());
        due("the place of the last byte", 1599, x.fault(1));
    }

    private static void ending() {
        promise(3, "The TAPE has its first n bytes: n;");
        BoardCrossing x = new BoardCrossing();
        due("end(0) of an empty one", 0, x.end(0));
        Check.feed(x, "draw 12;draw 34;flood 5;");
        due("end(all)", 24, x.end(24));
        due("end(6)", 6, x.end(6));
        due("about(10)", 6, x.about(10));
        due("feed behind these", 26, x.feed(0x333b2020, 0x20202020, 0x20202020, 0x20202020, 0x20202020));
        due("river()", 0, x.river());
        due("\"draw 13;\"", 13, x.about(5));
        Check.feed(x, "draw 55;");
        due("end(0)", 0, x.end(0));
        due("about(10)", 0, x.about(10));
        due("river() of nothing", 0, x.river());
        due("the SEED", 0, x.about(5));
    }

    private static void endRefused() {
        promise(3, "NONE, doing nothing, if it has not so many, or n is below 0.");
        for (String text : new String[] {"", "draw 7;"}) {
            for (int n : new int[] {text.length() + 1, 1600, 1601, -1, HIGH, LOW}) {
                BoardCrossing x = told("draw 3;");
                Check.feed(x, text);
                refused("end(" + n + ") of " + text.length(), -1, x, y -> y.end(n));
                due("river() then", 0, x.river());
                due("the SEED", text.isEmpty() ? 0 : 7, x.about(5));
            }
        }
    }

    // promises 4 and 5

    /** Acts to undo and to redo, something seen, lying there, in every box, and a time. */
    private static BoardCrossing busy() {
        BoardCrossing x = told(BUSY);
        x.later(5);
        x.passed(1, 2, true);
        for (int box = 0; box < 3; box++) {
            x.image(box);
        }
        x.stow(0, 0);
        x.stroke(0, 1, true);
        x.cool(0, 1);
        x.undo();
        x.trips(0);
        return x;
    }

    private static void tapeIsEmptied() {
        promise(4, "The TAPE (empty then) is the RIVER");
        BoardCrossing x = new BoardCrossing();
        due("a river", 0, Check.tell(x, "draw 7;"));
        due("about(10)", 0, x.about(10));
        due("river() once more", 0, x.river());
        due("the SEED of an empty RIVER", 0, x.about(5));
        due("a fault", -1, Check.tell(x, "draw"));
        due("about(10) behind a fault", 0, x.about(10));
        due("river() once more", 0, x.river());
    }

    private static void allAsTold() {
        promise(4, "(all as told,");
        BoardCrossing x = busy();
        due("the same river", 2, Check.tell(x, BUSY));
        int[] first = {1, 0, 0, 0, 0, 10, 4, 0, 0};
        int[] second = {3, 0, 0, 0, 0, 6, 20, 0, 0};
        for (int what = 0; what <= 8; what++) {
            due("board(0, " + what + ")", first[what], x.board(0, what));
            due("board(1, " + what + ")", second[what], x.board(1, what));
        }
        due("load(0, 1)", -1, x.load(0, 1));
        due("the SEED", 9, x.about(5));
        due("an empty one", 0, x.river());
        int[] want = {0, 0, 8, 6, 0, 0, 0, 0, 0, 5, 0, 0, 0};
        for (int what = 0; what < want.length; what++) {
            due("about(" + what + ") of an empty one", want[what], x.about(what));
        }
        for (int cell = 0; cell < 56; cell++) {
            due("current of an empty one", 0, x.spot(cell % 8, cell / 8, 0));
            due("iron of an empty one", 0, x.spot(cell % 8, cell / 8, 1));
        }
        for (int i = 0; i < 3; i++) {
            due("with heat", 1, Check.tell(x, "board ann wide 3 at 7 bears 9;heat not 0;"));
            due("heat as it is told", 1, x.hotter(0));
            due("another heat", 1, Check.tell(x, "board ann wide 3 at 7;heat 7;"));
            due("the other heat", 7, x.hotter(0));
            due("without heat", 1, Check.tell(x, "board ann wide 3 at 7;"));
            due("heat if it is not told", 1, x.hotter(0));
            due("bears if it is not told", 20, x.board(0, 6));
        }
    }

    private static void noActsAreKept() {
        promise(4, "no ACTS are kept,");
        BoardCrossing x = busy();
        due("about(6) before", 2, x.about(6));
        due("about(7) before", 1, x.about(7));
        Check.tell(x, BUSY);
        due("about(6)", 0, x.about(6));
        due("about(7)", 0, x.about(7));
        due("undo()", false, x.undo());
        due("redo()", false, x.redo());
    }

    private static void nothingIsSeen() {
        promise(4, "nothing is SEEN,");
        BoardCrossing x = busy();
        due("fits(5) before", 18, x.fits(5));
        Check.tell(x, BUSY);
        due("about(8)", 0, x.about(8));
        due("fits(5)", 27, x.fits(5));
        due("untell(0)", false, x.untell(0));
        due("passed(1, 2, true)", 0, x.passed(1, 2, true));
        Check.tell(x, "water 5 by 3;board b wide 1 at 4;");
        x.passed(1, 4, true);
        due("by where the first BOARD of this RIVER is", 18, x.fits(5));
    }

    private static void nothingLies() {
        promise(4, "nothing lies there,");
        BoardCrossing x = busy();
        due("about(12) before", 4, x.about(12));
        Check.tell(x, BUSY);
        lying("river()", x);
    }

    private static void boxesAreEmpty() {
        promise(4, "BOXES are empty then;");
        BoardCrossing x = busy();
        Check.tell(x, BUSY);
        for (int box = 0; box < 3; box++) {
            due("back(" + box + ")", -1, x.back(box));
        }
    }

    private static void timeStays() {
        promise(4, "the TIME stays)");
        BoardCrossing x = busy();
        Check.tell(x, BUSY);
        due("about(9)", 5, x.about(9));
        x.passed(1, 2, true);
        due("fits(4)", 27, x.fits(4));
        due("fits(5)", 18, x.fits(5));
        x.river();
        due("about(9) of an empty one", 5, x.about(9));
    }

    private static void howManyBoards() {
        promise(4, "how many BOARDS;");
        StringBuilder text = new StringBuilder();
        for (int boards = 0; boards <= 4; boards++) {
            BoardCrossing x = new BoardCrossing();
            due("boards", boards, Check.tell(x, text.toString()));
            due("about(0)", boards, x.about(0));
            text.append("board ").append((char) ('a' + boards)).append(" wide 1 at 0;");
        }
    }

    private static void faultLeavesAll() {
        promise(4, "NONE: a FAULT (all stays).");
        for (String text : new String[] {"$", "draw 1", "water 1 by 1;water", "board z wide 100", "heat 1+1;flood 2;draw 3;load a wide 1;load a"}) {
            BoardCrossing x = busy();
            int[] before = look(x);
            int[] spots = spots(x);
            due("river() of \"" + text + "\"", -1, Check.tell(x, text));
            same("a fault in \"" + text + "\"", before, look(x));
            same("spots", spots, spots(x));
            due("hotter(0)", 2, x.hotter(0));
            due("redo()", true, x.redo());
            due("undo()", true, x.undo());
            due("undo()", true, x.undo());
            due("board(0, 1)", 0, x.board(0, 1));
            for (int box = 0; box < 3; box++) {
                due("back(" + box + ")", 0, x.back(box));
            }
        }
    }

    private static int[] spots(BoardCrossing x) {
        int[] spots = new int[40];
        for (int cell = 0; cell < 20; cell++) {
            spots[cell] = x.spot(cell % 5, cell / 5, 0);
            spots[20 + cell] = x.spot(cell % 5, cell / 5, 1);
        }
        return spots;
    }

    private static void faultOfTheLatest() {
        promise(5, "Of the latest river() what 0: its FAULT (0), 1: its place (NONE).");
        BoardCrossing x = new BoardCrossing();
        due("fault(0) ahead of any", 0, x.fault(0));
        due("fault(1) ahead of any", -1, x.fault(1));
        Check.tell(x, "draw 1000;");
        due("fault(0)", 4, x.fault(0));
        due("fault(1)", 5, x.fault(1));
        Check.tell(x, "$");
        due("fault(0) of the next", 1, x.fault(0));
        due("fault(1) of the next", 0, x.fault(1));
        Check.feed(x, "draw 5;");
        due("fault(0) till the next river()", 1, x.fault(0));
        x.river();
        due("fault(0) without one", 0, x.fault(0));
        due("fault(1) without one", -1, x.fault(1));
    }

    private static void faultOfAnotherWhat() {
        promise(5, "NONE for another what.");
        BoardCrossing x = new BoardCrossing();
        Check.tell(x, "  $");
        for (int what : new int[] {-1, 2, LOW, HIGH}) {
            due("fault(" + what + ")", -1, x.fault(what));
        }
    }

    // Terms: the text

    private static void textLength() {
        terms("1, 2, 4, 5", "A RIVER is a text of at most 1,600 bytes (empty at first)");
        due("empty at first", 0, new BoardCrossing().about(11));
        BoardCrossing x = new BoardCrossing();
        due("1,600 bytes", 1, Check.tell(x, " ".repeat(1578) + "board ab wide 77 at 5;"));
        due("its wide", 77, x.board(0, 5));
        fault(" ".repeat(1594) + "draw 7", 2, 1600);
        fault(" ".repeat(1599) + "$", 1, 1599);
        fault("a".repeat(1600), 1, 0);
        fault("7".repeat(1600), 1, 0);
        fault("(".repeat(1600), 2, 0);
        fault("heat " + "(".repeat(1595), 2, 12);
        fault("heat " + "1+".repeat(797), 2, 65);
    }

    private static void anyLines() {
        terms("4", "river = {line}.");
        due("no line", 0, Check.tell(new BoardCrossing(), ""));
        due("one line", 0, Check.tell(new BoardCrossing(), "draw 1;"));
        fault("draw 1;;", 2, 7);
        fault(";", 2, 0);
    }

    private static void lineForms() {
        terms("4, 5", "line = water N by N ; | current N at N N ; | iron N N ; | board NAME wide N at N [bears N] ; | load NAME wide N ;"
            + " | heat e ; | flood N ; | draw N ;.");
        for (String line : LINES) {
            stands(line);
            String[] tokens = line.split(" ");
            StringBuilder ahead = new StringBuilder();
            for (String token : tokens) {
                if (ahead.length() > 0) {
                    fault(ahead.toString(), 2, ahead.length());
                }
                fault(ahead + ") ;", 2, ahead.length());
                fault(ahead + "by by ;", 2, ahead.length() + (token.equals("by") ? 3 : 0));
                ahead.append(token).append(' ');
            }
            fault(ahead + line.substring(0, 1) + " ;", 2, ahead.length());
        }
        fault("board b wide 5 bears 9 at 0;", 2, 15);
        fault("board b at 0 wide 5;", 2, 8);
        fault("board b wide 5 at 0 bears 9 bears 9;", 2, 28);
        fault("load c wide 5 bears 9;", 2, 14);
        fault("current 1 0 0;", 2, 10);
        fault("iron at 0 1;", 2, 5);
    }

    // Terms: formulas

    /** What comes of a formula for a board 9 wide in column 2 of the near bank, as cold as can be. */
    private static void comes(String formula, int want) {
        BoardCrossing x = told("water 4 by 3;board b wide 9 at 2 bears 90;heat " + formula + ";");
        due("hotter(0) by " + formula, want, x.hotter(0));
    }

    private static void anyOfBoth() {
        terms("4, 9", "e = both {or both}.");
        comes("0 or 0 or 7", 1);
        comes("0 or 0 or 0", 0);
        comes("0 and 1 or 1", 1);
        comes("1 or 1 and 0", 1);
        fault("heat or 1;", 2, 5);
        fault("heat 1 or;", 2, 9);
        fault("heat 1 or or 1;", 2, 10);
        fault("heat 1 or", 2, 9);
    }

    private static void bothOfOnes() {
        terms("4, 9", "both = one {and one}.");
        comes("7 and 7 and 7", 1);
        comes("7 and 7 and 0", 0);
        comes("2 > 1 and 1 < 2", 1);
        fault("heat and 1;", 2, 5);
        fault("heat 1 and;", 2, 10);
        fault("heat 1 and and 1;", 2, 11);
        fault("heat 1 and", 2, 10);
    }

    private static void oneForms() {
        terms("4, 9", "one = not one | sum [(< | > | =) sum].");
        comes("not not 7", 1);
        comes("not 1 = 2", 1);
        comes("not 0 + 5", 0);
        comes("3 + 4", 7);
        for (String sign : new String[] {"<", ">", "="}) {
            fault("heat 1 " + sign + ";", 2, 8);
            fault("heat 1 " + sign, 2, 8);
            fault("heat " + sign + " 1;", 2, 5);
            fault("heat 1 " + sign + " 1 " + sign + " 1;", 2, 11);
            fault("heat 1 " + sign + " not 1;", 2, 9);
        }
        fault("heat 1 not 1;", 2, 7);
        fault("heat not;", 2, 8);
        fault("heat not", 2, 8);
        fault("heat not and 1;", 2, 9);
    }

    private static void sums() {
        terms("4, 9", "sum = term {(+ | -) term}.");
        comes("9 - 4 - 3", 2);
        comes("9 - 4 + 3", 8);
        for (String sign : new String[] {"+", "-"}) {
            fault("heat " + sign + "1;", 2, 5);
            fault("heat 1" + sign + ";", 2, 7);
            fault("heat 1" + sign, 2, 7);
            fault("heat 1" + sign + sign + "1;", 2, 7);
            fault("heat 1" + sign + "not 1;", 2, 7);
        }
    }

    private static void termForms() {
        terms("4, 9", "term = unit {(* | / | %) unit}.");
        comes("2 * 3 * 4", 24);
        comes("40 / 4 / 5", 2);
        comes("40 % 7 % 3", 2);
        comes("1 + 2 * 3", 7);
        comes("20 - 9 / 3", 17);
        for (String sign : new String[] {"*", "/", "%"}) {
            fault("heat " + sign + "1;", 2, 5);
            fault("heat 1" + sign + ";", 2, 7);
            fault("heat 1" + sign, 2, 7);
            fault("heat 1" + sign + sign + "1;", 2, 7);
            fault("heat 1" + sign + "not 1;", 2, 7);
        }
    }

    private static void unitForms() {
        terms("4, 9", "unit = N | row | column | load | wide | strokes | hot | ( e ).");
        comes("row", 0);
        comes("column", 2);
        comes("load", 0);
        comes("wide", 9);
        comes("strokes", 0);
        comes("hot", 0);
        comes("0", 0);
        comes("(7)", 7);
        comes("(0 or 5) + (not 0)", 2);
        for (String word : new String[] {"water", "by", "current", "at", "iron", "board", "bears", "heat", "flood", "draw", "name"}) {
            fault("heat " + word + ";", 2, 5);
        }
        fault("heat ();", 2, 6);
        fault("heat (1;", 2, 7);
        fault("heat (1", 2, 7);
        fault("heat (", 2, 6);
        fault("heat (;", 2, 6);
        fault("heat (1+;", 2, 8);
        fault("heat (1 or;", 2, 10);
        fault("heat (not;", 2, 9);
        fault("heat ((1);", 2, 9);
        fault("heat ((1)+;", 2, 10);
        fault("heat 1);", 2, 6);
        fault("heat 1 1;", 2, 7);
        fault("heat row row;", 2, 9);
        fault("heat 1 (1);", 2, 7);
    }

    // Terms: tokens

    private static void wordLength() {
        terms("4, 5", "TOKENS: words (a .. z, 8 at most)");
        stands("board z wide 1 at 0;load a wide 1;");
        stands("board zzzzzzzz wide 1 at 0;load aaaaaaaa wide 1;");
        fault("board zzzzzzzzz wide 1 at 0;", 1, 6);
        fault("load aaaaaaaaa wide 1;", 1, 5);
        fault("strokesss", 1, 0);
        fault("heat strokesss;", 1, 5);
        fault("board " + "a".repeat(200) + " wide 1 at 0;", 1, 6);
        fault("board `a wide 1 at 0;", 1, 6);
        fault("board a{ wide 1 at 0;", 1, 7);
        fault("Board a wide 1 at 0;", 1, 0);
        fault("board aB wide 1 at 0;", 1, 7);
        BoardCrossing x = told("board abcdefgh wide 3 at 0;board bcdefgha wide 4 at 0;board abcdefg wide 5 at 0;board abcdefgg wide 6 at 0;");
        due("names of 8 that are not alike", 4, x.about(0));
        fault("board abcdefgh wide 3 at 0;board bcdefgha wide 4 at 0;board abcdefgh", 3, 60);
    }

    private static void numberLength() {
        terms("4, 5", "N (1 to 4 digits)");
        due("1 digit", 9, told("draw 9;").about(5));
        due("4 digits", 999, told("draw 0999;").about(5));
        due("4 digits of 0", 0, told("draw 0000;").about(5));
        fault("draw 00999;", 1, 5);
        fault("draw 00000;", 1, 5);
        fault("heat 10000;", 1, 5);
        fault("heat 1+99999;", 1, 7);
        fault("draw 4294967301;", 1, 5);
        stands("heat 9999;");
        fault("draw :;", 1, 5);
    }

    private static void signs() {
        terms("4, 5", "signs ; ( ) < > = + - * / %;");
        for (int sign = 0; sign < 256; sign++) {
            char c = (char) sign;
            boolean blank = c == 32 || c == 10;
            boolean token = c >= 'a' && c <= 'z' || c >= '0' && c <= '9' || SIGNS.indexOf(c) >= 0;
            if (blank) {
                stands("draw 1;" + c);
            } else {
                fault("draw 1;" + c, token ? 2 : 1, 7);
            }
        }
        stands("heat (1<2)+(1>2)+(1=2)-1*1/1%1;");
    }

    private static void blanks() {
        terms("4, 5", "blanks (32, 10) part them or not;");
        due("no blanks but those that must be", 1, Check.tell(new BoardCrossing(), "water8 by6;board a wide1 at7 bears9;heat1+2;draw3;"));
        due("many blanks", 1, Check.tell(new BoardCrossing(), "\n \nwater\n\n8\nby 6\n ;  board\na\nwide\n1\nat\n7\n;\n"));
        due("a blank parts a number", 12, told("draw 12;").about(5));
        fault("draw 1 2;", 2, 7);
        fault("draw 1\n2;", 2, 7);
        fault("dr aw 1;", 2, 0);
        for (char c : new char[] {0, 9, 11, 12, 13, 31, 127, 133, 160}) {
            fault("draw" + c + "1;", 1, 4);
        }
    }

    private static void longestTokens() {
        terms("4, 5", "each is as long as can be;");
        fault("drawdraw 1;", 2, 0);
        fault("boarda wide 1 at 0;", 2, 0);
        fault("board awide 1 at 0;", 2, 12);
        fault("heat notrow;", 2, 5);
        fault("heat 1 orrow;", 2, 7);
        due("two digits are one N", 77, told("load a wide 77;").load(0, 0));
        stands("board att wide 1 at 0;");
    }

    private static void letterBehindNumber() {
        terms("4, 5", "no letter directly behind an N.");
        fault("water 3by 3;", 1, 6);
        fault("board b wide 5at 0;", 1, 13);
        fault("board b wide 5 at 0bears 9;", 1, 18);
        fault("heat 1or 0;", 1, 5);
        fault("heat 9999a;", 1, 5);
        fault("current 1at 0 0;", 1, 8);
        stands("heat 1 or 0;");
        stands("heat 1\nor 0;");
        stands("heat (1)or 0;");
        stands("heat not1;");
    }

    private static void ownWords() {
        terms("4, 5", "Words that stand for themselves here are no NAMES.");
        for (String word : OWN_WORDS) {
            fault("board " + word + " wide 1 at 0;", 2, 6);
            fault("load " + word + " wide 1;", 2, 5);
            if (word.length() < 8) {
                stands("board " + word + "x wide 1 at 0;load " + word + "x wide 1;");
            }
            stands("board " + word.substring(1) + "q wide 1 at 0;load " + word.substring(1) + "q wide 1;");
        }
        stands("board river wide 1 at 0;load name wide 1;board e wide 1 at 0;load stroke wide 1;");
    }

    // Terms: how many, how large

    private static void water() {
        terms("4, 5, 44", "water (COLUMNS 1 .. 8; STROKES from bank to bank 1 .. 6; 8 by 6 if not told) once, ahead of all others.");
        for (int[] size : new int[][] {{1, 1}, {8, 6}, {1, 6}, {8, 1}}) {
            BoardCrossing x = told("water " + size[0] + " by " + size[1] + ";");
            due("COLUMNS", size[0], x.about(2));
            due("STROKES", size[1], x.about(3));
        }
        due("COLUMNS if not told", 8, told("draw 1;").about(2));
        due("STROKES if not told", 6, told("draw 1;").about(3));
        fault("water 0 by 1;", 4, 6);
        fault("water 9 by 1;", 4, 6);
        fault("water 9999 by 1;", 4, 6);
        fault("water 1 by 0;", 4, 11);
        fault("water 1 by 7;", 4, 11);
        fault("water 1 by 9999;", 4, 11);
        fault("water 3 by 2;water 3 by 2;", 2, 13);
        for (String line : LINES) {
            if (!line.startsWith("water")) {
                fault(line + "water 3 by 2;", 2, line.length());
            }
        }
    }

    private static void cells() {
        terms("4, 6, 8", "A CELL is told by its column (from 0), its row (0, the near bank, .. as many as there are STROKES, the far one).");
        BoardCrossing x = told("water 2 by 3;current 5 at 0 0;current 6 at 1 2;iron 0 1;iron 1 2;board b wide 1 at 0;board c wide 1 at 1;");
        due("spot(0, 0, 0)", 5, x.spot(0, 0, 0));
        due("spot(1, 2, 0)", 6, x.spot(1, 2, 0));
        due("spot(0, 1, 1)", 1, x.spot(0, 1, 1));
        due("spot(1, 2, 1)", 1, x.spot(1, 2, 1));
        due("spot(1, 0, 1)", 0, x.spot(1, 0, 1));
        due("spot(1, 3, 0)", 0, x.spot(1, 3, 0));
        due("spot(1, 4, 0)", -1, x.spot(1, 4, 0));
        due("spot(2, 3, 0)", -1, x.spot(2, 3, 0));
        due("a BOARD's row at first", 0, x.board(1, 1));
        due("a BOARD's column at first", 1, x.board(1, 0));
        fault("water 2 by 3;current 5 at 2 0;", 4, 26);
        fault("water 2 by 3;iron 2 1;", 4, 18);
        fault("water 2 by 3;board b wide 1 at 2;", 4, 31);
        fault("current 5 at 8 0;", 4, 13);
        fault("iron 8 1;", 4, 5);
        fault("board b wide 1 at 8;", 4, 18);
    }

    private static String currents(int count) {
        StringBuilder text = new StringBuilder();
        for (int i = 0; i < count; i++) {
            text.append("current ").append(i % 8).append(" at ").append(i % 8).append(' ').append(i / 8 * 5).append(';');
        }
        return text.toString();
    }

    private static void currents() {
        terms("4, 5, 8", "At most 16 currents (0 .. 7, at a CELL that is not on the far bank, at which none is told)");
        BoardCrossing x = told(currents(16));
        for (int i = 0; i < 16; i++) {
            due("current " + i, i % 8, x.spot(i % 8, i / 8 * 5, 0));
        }
        for (int i = 0; i < 3; i++) {
            due("16 of each RIVER", 0, Check.tell(x, currents(16)));
            due("a fault among them", -1, Check.tell(x, currents(15) + "$"));
        }
        fault(currents(16) + "current 0 at 0 1;", 2, currents(16).length());
        fault(currents(16) + "current", 2, currents(16).length());
        fault("current 8 at 0 0;", 4, 8);
        fault("current 7 at 0 6;", 4, 15);
        fault("current 7 at 0 7;", 4, 15);
        fault("water 8 by 1;current 7 at 0 1;", 4, 28);
        stands("water 8 by 1;current 7 at 7 0;");
        fault("current 0 at 3 2;current 1 at 3 2;", 3, 32);
        stands("current 0 at 3 2;current 0 at 2 3;iron 3 2;");
    }

    private static String irons(int count) {
        StringBuilder text = new StringBuilder();
        for (int i = 0; i < count; i++) {
            text.append("iron ").append(i + 1).append(' ').append(i % 2 == 0 ? 1 : 5).append(';');
        }
        return text.toString();
    }

    private static void irons() {
        terms("4, 5, 8", "6 irons (at a CELL on no bank, at which none is told)");
        BoardCrossing x = told(irons(6));
        for (int i = 0; i < 6; i++) {
            due("iron " + i, 1, x.spot(i + 1, i % 2 == 0 ? 1 : 5, 1));
        }
        for (int i = 0; i < 3; i++) {
            due("6 of each RIVER", 0, Check.tell(x, irons(6)));
            due("a fault among them", -1, Check.tell(x, irons(5) + "$"));
        }
        fault(irons(6) + "iron 0 2;", 2, irons(6).length());
        fault(irons(6) + "iron", 2, irons(6).length());
        fault("iron 0 0;", 4, 7);
        fault("iron 0 6;", 4, 7);
        fault("iron 0 7;", 4, 7);
        fault("water 2 by 1;iron 0 0;", 4, 20);
        fault("water 2 by 1;iron 0 1;", 4, 20);
        stands("water 2 by 2;iron 0 1;iron 1 1;");
        fault("iron 3 2;iron 2 3;iron 3 2;", 3, 25);
        stands("iron 3 2;current 7 at 3 2;");
    }

    private static void boards() {
        terms("4, 5, 6", "4 BOARDS (wide 0 .. 99; at a column of the near bank; bears 0 .. 99, 20 if not told)");
        String four = "board a wide 0 at 0 bears 0;board b wide 99 at 7 bears 99;board c wide 1 at 1;board d wide 98 at 6 bears 1;";
        BoardCrossing x = told(four);
        int[][] want = {{0, 0, 0}, {99, 7, 99}, {1, 1, 20}, {98, 6, 1}};
        for (int b = 0; b < 4; b++) {
            due("wide", want[b][0], x.board(b, 5));
            due("column", want[b][1], x.board(b, 0));
            due("row", 0, x.board(b, 1));
            due("bears", want[b][2], x.board(b, 6));
        }
        fault(four + "board e wide 1 at 1;", 2, four.length());
        fault(four + "board", 2, four.length());
        fault("board a wide 100 at 0;", 4, 13);
        fault("board a wide 1 at 8;", 4, 18);
        fault("board a wide 1 at 0 bears 100;", 4, 26);
        fault("water 1 by 1;board a wide 1 at 1;", 4, 31);
        stands("board a wide 1 at 3;board b wide 1 at 3;");
    }

    private static String loads(int count) {
        StringBuilder text = new StringBuilder();
        for (int i = 0; i < count; i++) {
            text.append("load ").append((char) ('a' + i)).append(" wide ").append(99 * (i % 2)).append(';');
        }
        return text.toString();
    }

    private static void loads() {
        terms("4, 5, 7", "7 LOADS (wide 0 .. 99; on the near bank)");
        BoardCrossing x = told(loads(7));
        due("LOADS", 7, x.about(1));
        for (int i = 0; i < 7; i++) {
            due("wide", 99 * (i % 2), x.load(i, 0));
            due("on the near bank", -1, x.load(i, 1));
        }
        fault(loads(7) + "load z wide 1;", 2, loads(7).length());
        fault(loads(7) + "load", 2, loads(7).length());
        fault("load a wide 100;", 4, 12);
        fault("load a wide 9999;", 4, 12);
    }

    private static void numbering() {
        terms("4, 6, 7", "numbered as told, each sort by itself;");
        BoardCrossing x = told("load z wide 1;board z wide 2 at 0;load y wide 3;load a wide 4;board a wide 5 at 0;");
        due("board 0", 2, x.board(0, 5));
        due("board 1", 5, x.board(1, 5));
        due("no board 2", -1, x.board(2, 5));
        due("load 0", 1, x.load(0, 0));
        due("load 1", 3, x.load(1, 0));
        due("load 2", 4, x.load(2, 0));
        due("no load 3", -3, x.load(3, 0));
    }

    private static void onceEach() {
        terms("4, 5, 44", "heat, flood (0 .. 100 of 100; 0), draw (0 .. 999; 0) once each;");
        due("flood 0", 0, told("flood 0;").about(4));
        due("flood 100", 100, told("flood 100;").about(4));
        due("flood not told", 0, told("draw 1;").about(4));
        fault("flood 101;", 4, 6);
        fault("flood 9999;", 4, 6);
        due("draw 0", 0, told("draw 0;").about(5));
        due("draw 999", 999, told("draw 999;").about(5));
        due("draw not told", 0, told("flood 1;").about(5));
        fault("draw 1000;", 4, 5);
        fault("draw 9999;", 4, 5);
        for (String line : new String[] {"heat 1;", "flood 0;", "draw 0;"}) {
            fault(line + line, 2, line.length());
            fault(line + "load a wide 1;" + line, 2, line.length() + 14);
        }
        stands("heat 1;draw 0;flood 0;");
    }

    private static void units() {
        terms("4, 5, 44", "60 units in all, 30 in one e");
        due("no heat", 0, told("draw 1;").about(11));
        due("1 unit", 1, told("heat 1;").about(11));
        due("30 units", 30, told("heat 1" + "+1".repeat(29) + ";").about(11));
        due("30 of each sort", 30, told("heat row" + "*hot or wide".repeat(14) + "<load;").about(11));
        due("a unit ( e ) is one, too", 30, told("heat (1)" + "+(1)".repeat(14) + ";").about(11));
        due("not is none", 30, told("heat not 1" + " and not 1".repeat(29) + ";").about(11));
        fault("heat 1" + "+1".repeat(30) + ";", 2, 65);
        fault("heat (1)" + "+(1)".repeat(15) + ";", 2, 65);
    }

    private static void depth() {
        terms("4, 5", "(a unit ( e ), or a one behind not, within 6 others at most)");
        String seven = "(".repeat(7) + "1" + ")".repeat(7);
        stands("heat " + seven + ";");
        fault("heat (" + seven + ");", 2, 12);
        stands("heat " + "not ".repeat(7) + "1;");
        fault("heat " + "not ".repeat(8) + "1;", 2, 33);
        stands("heat not (not (not (not 1)));");
        fault("heat not (not (not (not (1))));", 2, 24);
        fault("heat (not (not (not (not 1))));", 2, 21);
        stands("heat " + seven + "+" + seven + "*" + seven + ";");
        stands("heat " + "not ".repeat(7) + "1 and " + "not ".repeat(7) + "1;");
        stands("heat ((((((" + "(1)+(2)" + "))))));");
        stands("heat ((((((not 1 and not 2))))));");
        fault("heat (((((((not 1)))))));", 2, 12);
        fault("heat " + "not ".repeat(7) + "(1);", 2, 33);
    }

    // Terms: faults

    private static void firstFault() {
        terms("4, 5", "FAULTS, the first by its place (bytes from 0; the end: the text's length)");
        fault("$draw 1000;", 1, 0);
        fault("flood 101;draw 1000;$", 4, 6);
        fault("current 9 at 9 9;", 4, 8);
        fault("iron 9 0;", 4, 5);
        fault("board a wide 100 at 9 bears 100;", 4, 13);
        fault("draw 1;load a wide 1;load a$", 3, 26);
        fault("load by wide 100$", 2, 5);
        fault("draw", 2, 4);
        fault("draw ", 2, 5);
        fault("draw \n ", 2, 7);
        fault("draw 1\n", 2, 7);
    }

    private static void leastFault() {
        terms("4, 5", "at one place the least:");
        fault("draw 12345;", 1, 5);
        fault("draw 1;load a wide 1;load aaaaaaaaa", 1, 26);
        fault("heat 1 12345;", 1, 7);
        fault("draw 1;99999", 1, 7);
        fault("heat " + "1+".repeat(30) + "12345;", 1, 65);
        fault("heat (((((((12345", 1, 12);
        fault("load a wide 1;load 9999 wide 1;", 2, 19);
        fault("draw 1 9999;", 2, 7);
        fault("water 1 by 1 9;", 2, 13);
    }

    private static void noToken() {
        terms("4, 5", "1 no TOKEN;");
        fault("#", 1, 0);
        fault("draw #;", 1, 5);
        fault("draw 1#", 1, 6);
        fault("draw 1;#", 1, 7);
        fault("heat 1&1;", 1, 6);
        fault("heat !1;", 1, 5);
        fault("heat 1 \u00b2;", 1, 7);
        fault("load a,", 1, 6);
    }

    private static void cannotStand() {
        terms("4, 5", "2 one that can't stand there (one of a sort too many, a second time, water behind another line: at the line's first word;");
        fault("draw 1 ;draw", 2, 8);
        fault("draw 1; water 1 by 1;", 2, 8);
        fault("water 1 by 1;water", 2, 13);
        fault(currents(16) + " current 9", 2, currents(16).length() + 1);
        fault(irons(6) + "\niron 9 9", 2, irons(6).length() + 1);
        fault(loads(7) + " load a wide 1;", 2, loads(7).length() + 1);
        String four = "board a wide 0 at 0;board b wide 0 at 0;board c wide 0 at 0;board d wide 0 at 0;";
        fault(four + " board a wide 1 at 1;", 2, four.length() + 1);
        fault("heat 1;\nheat 1;", 2, 8);
        fault("flood 1; flood 101;", 2, 9);
    }

    private static void unitTooMany() {
        terms("4, 5", "a unit too many, what is within 7 others: at its first TOKEN, or the not)");
        String thirty = "heat 1" + "+1".repeat(29);
        fault(thirty + " + 1;", 2, thirty.length() + 3);
        fault(thirty + " + hot;", 2, thirty.length() + 3);
        fault(thirty + " + (1);", 2, thirty.length() + 3);
        fault(thirty + " and not 1;", 2, thirty.length() + 9);
        fault(thirty + " and )", 2, thirty.length() + 5);
        String inner = "heat 1" + "+1".repeat(28);
        fault(inner + " + ( 1 );", 2, inner.length() + 5);
        fault("heat ( ( ( ( ( ( ( ( 1", 2, 19);
        fault("heat ( ( ( ( ( ( ( 1 + ( 1", 2, 23);
        fault("heat ( ( ( ( ( ( ( not 1", 2, 19);
        fault("heat not not not not not not not not $", 2, 33);
    }

    private static void toldAlready() {
        terms("4, 5", "3 a NAME told already (of its sort), a CELL at which one of its sort is told (at the row);");
        fault("board a wide 1 at 0;board a wide 1 at 0;", 3, 26);
        fault("board a wide 1 at 0;board b wide 1 at 0;board c wide 1 at 0;board b", 3, 66);
        fault("load a wide 1;load a wide 1;", 3, 19);
        fault("load a wide 1;load b wide 1;load c wide 1;load d wide 1;load e wide 1;load f wide 1;load f", 3, 89);
        stands("board a wide 1 at 0;load a wide 1;load b wide 1;board b wide 1 at 0;");
        fault("current 1 at 7 5;current 2 at 7 5;", 3, 32);
        fault("current 0 at 0 0;current 0 at 0 0;", 3, 32);
        fault("iron 7 5;iron 7 5;", 3, 16);
        fault("water 1 by 2;iron 0 1;iron 0 1", 3, 29);
        stands("current 1 at 7 5;iron 7 5;");
        stands("current 1 at 1 2;current 1 at 2 1;current 1 at 1 1;current 1 at 2 2;");
    }

    private static void numberCannotBe() {
        terms("4, 5", "4 a number that can't be (also an iron's row on a bank, a current's on the far one).");
        fault("current 8 at 0 0;", 4, 8);
        fault("current 0 at 0 6;", 4, 15);
        fault("current 0 at 0 9999;", 4, 15);
        stands("current 0 at 0 0;");
        fault("iron 0 0;", 4, 7);
        fault("iron 0 6;", 4, 7);
        fault("water 1 by 2;iron 0 2;", 4, 20);
        fault("water 1 by 2;iron 0 0;", 4, 20);
        fault("water 1 by 2;current 0 at 0 2;", 4, 28);
        stands("heat 9999;");
    }
}
