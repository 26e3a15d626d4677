/** Promises 35 to 44, and what "Terms" says of what is SEEN: one test for each sentence that names a boundary case. */
final class SeenBoundary extends Boundary {
    private static final String WIDE = "water 8 by 3;board b wide 3 at 3;";

    private SeenBoundary() {
    }

    static void run() {
        passed();
        passedRefused();
        felt();
        feltRefused();
        untell();
        later();
        laterRefused();
        fits();
        sure();
        ask();
        image();
        imageRefused();
        back();
        backRefused();
        about();
        aboutAnother();
        thirty();
        timeGoesOn();
        untoldAtTheSame();
        firstBoard();
        mayHiss();
        columnOrHeat();
        knownAt();
        fitting();
        sureSteer();
        asked();
    }

    private static BoardCrossing seen(int times) {
        BoardCrossing x = told(WIDE);
        for (int i = 0; i < times; i++) {
            due("passed(1, 0, true)", i, x.passed(1, 0, true));
        }
        return x;
    }

    // promises 35 to 38

    private static void passed() {
        promise(35, "That behind so many STROKES its column was so much (0 .. 7) at least, or was not: its number;");
        BoardCrossing x = told(WIDE);
        due("the first number", 0, x.passed(1, 0, true));
        due("the second", 1, x.passed(3, 7, false));
        due("all", 27, x.fits(0));
        due("7 at least", 2, x.passed(3, 7, true));
        due("none", 0, x.fits(0));
        x = told(WIDE);
        x.passed(1, 0, false);
        due("not 0 at least", 0, x.fits(0));
        x = told("water 8 by 3;board b wide 3 at 6;");
        x.passed(3, 7, true);
        due("7 at least, by nine", 9, x.fits(0));
        x = told("water 1 by 1;board b wide 3 at 0;");
        due("a column that this RIVER has not", 0, x.passed(1, 7, false));
        due("it was not", 3, x.fits(0));
        due("it was", 1, x.passed(1, 7, true));
        due("never", 0, x.fits(0));
    }

    private static void passedRefused() {
        promise(35, "NONE, doing nothing, if one can't be, there are 30, or no BOARDS.");
        for (int strokes : new int[] {0, 4, -1, 7, LOW, HIGH}) {
            refused("passed(" + strokes + ", 0, false)", -1, told(WIDE), x -> x.passed(strokes, 0, false));
        }
        for (int column : new int[] {-1, 8, LOW, HIGH}) {
            refused("passed(1, " + column + ", true)", -1, told(WIDE), x -> x.passed(1, column, true));
            refused("passed(1, " + column + ", false)", -1, told(WIDE), x -> x.passed(1, column, false));
        }
        refused("the 31st", -1, seen(30), x -> x.passed(1, 0, false));
        refused("no BOARDS", -1, told("water 8 by 3;load l wide 1;"), x -> x.passed(1, 0, true));
        refused("a new object", -1, new BoardCrossing(), x -> x.passed(1, 0, true));
    }

    private static void felt() {
        promise(36, "That its HEAT was so much (0 .. 99) at least, or was not: its number;");
        BoardCrossing x = told("water 8 by 3;board b wide 3 at 3 bears 99;heat 99;");
        due("the first number", 0, x.felt(1, 0, true));
        due("the second", 1, x.felt(3, 99, true));
        due("99 at least", 27, x.fits(0));
        due("not 99 at least", 2, x.felt(2, 99, false));
        due("none", 0, x.fits(0));
        x = told(WIDE);
        x.felt(1, 0, false);
        due("not 0 at least", 0, x.fits(0));
        x = told(WIDE);
        x.felt(1, 1, true);
        x.felt(1, 2, false);
        due("1 behind the first", 27, x.fits(0));
        x.passed(1, 4, true);
        due("numbered with the others", 3, x.felt(1, 0, true));
        due("both sorts count", 9, x.fits(0));
    }

    private static void feltRefused() {
        promise(36, "NONE likewise.");
        for (int strokes : new int[] {0, 4, -1, 7, LOW, HIGH}) {
            refused("felt(" + strokes + ", 0, false)", -1, told(WIDE), x -> x.felt(strokes, 0, false));
        }
        for (int heat : new int[] {-1, 100, LOW, HIGH}) {
            refused("felt(1, " + heat + ", true)", -1, told(WIDE), x -> x.felt(1, heat, true));
            refused("felt(1, " + heat + ", false)", -1, told(WIDE), x -> x.felt(1, heat, false));
        }
        refused("the 31st", -1, seen(30), x -> x.felt(1, 0, false));
        refused("no BOARDS", -1, told("water 8 by 3;load l wide 1;"), x -> x.felt(1, 0, true));
    }

    private static void untell() {
        promise(37, "It is UNTOLD: true; false if it is so already, or there is none such.");
        BoardCrossing x = seen(30);
        for (int number : new int[] {-1, 30, 31, LOW, HIGH}) {
            refused("untell(" + number + ")", 0, x, y -> y.untell(number) ? 1 : 0);
            x = seen(30);
        }
        due("the first", true, x.untell(0));
        due("the last", true, x.untell(29));
        due("the first again", false, x.untell(0));
        x.later(1);
        due("the last again, later", false, x.untell(29));
        due("of none", false, told(WIDE).untell(0));
        due("of a new object", false, new BoardCrossing().untell(0));
        x = told(WIDE);
        x.passed(1, 4, true);
        x.untell(0);
        due("it does not count", 27, x.fits(0));
    }

    private static void later() {
        promise(38, "So much later (0 .. 1000): the TIME;");
        BoardCrossing x = new BoardCrossing();
        due("later(0)", 0, x.later(0));
        due("later(1)", 1, x.later(1));
        due("later(1000)", 1001, x.later(1000));
        due("later(999)", 2000, x.later(999));
        due("about(9)", 2000, x.about(9));
    }

    private static BoardCrossing lateBy(int time) {
        BoardCrossing x = new BoardCrossing();
        for (int i = 0; i < time / 1000; i++) {
            x.later(1000);
        }
        x.later(time % 1000);
        return x;
    }

    private static void laterRefused() {
        promise(38, "NONE, doing nothing, for another number, or if it would be above 100,000.");
        for (int by : new int[] {-1, 1001, LOW, HIGH}) {
            refused("later(" + by + ")", -1, lateBy(5), x -> x.later(by));
            refused("later(" + by + ") at the last", -1, lateBy(100000), x -> x.later(by));
        }
        due("to 100,000", 100000, lateBy(99000).later(1000));
        refused("to 100,001", -1, lateBy(99001), x -> x.later(1000));
        due("1 more to 100,000", 100000, lateBy(99999).later(1));
        refused("2 more to 100,001", -1, lateBy(99999), x -> x.later(2));
        refused("beyond it", -1, lateBy(100000), x -> x.later(1));
        due("0 more", 100000, lateBy(100000).later(0));
    }

    // promises 39 to 41

    private static void fits() {
        promise(39, "FITS: how many (0 without BOARDS).");
        due("a new object", 0, new BoardCrossing().fits(0));
        due("without BOARDS", 0, told("load l wide 1;").fits(0));
        due("the most", 729, told("board b wide 1 at 3;").fits(0));
        due("one STROKE", 3, told("water 1 by 1;board b wide 1 at 0;").fits(0));
        for (int k : new int[] {LOW, -1, 0, 100000, 100001, HIGH}) {
            due("fits(" + k + ") of nothing SEEN", 27, told(WIDE).fits(k));
        }
    }

    private static void sure() {
        promise(40, "SURE (of a STROKE 1 .. all): -1, 0, 1; -2 if it is not the same in all; -3 if none FITS, or there is no such STROKE.");
        BoardCrossing x = told(WIDE);
        for (int stroke = 1; stroke <= 3; stroke++) {
            due("not the same: sure(" + stroke + ", 0)", -2, x.sure(stroke, 0));
        }
        for (int stroke : new int[] {0, 4, -1, 7, LOW, HIGH}) {
            due("no such STROKE: sure(" + stroke + ", 0)", -3, x.sure(stroke, 0));
        }
        x.passed(1, 3, false);
        x.passed(2, 3, true);
        x.passed(3, 3, true);
        x.passed(3, 4, false);
        due("sure(1, 0)", -1, x.sure(1, 0));
        due("sure(2, 0)", 1, x.sure(2, 0));
        due("sure(3, 0)", 0, x.sure(3, 0));
        due("no such STROKE", -3, x.sure(4, 0));
        x.passed(1, 7, true);
        for (int stroke = 1; stroke <= 3; stroke++) {
            due("none FITS: sure(" + stroke + ", 0)", -3, x.sure(stroke, 0));
        }
        due("without BOARDS", -3, new BoardCrossing().sure(1, 0));
        due("the last of 6", -2, told("board b wide 1 at 3;").sure(6, 0));
        due("the 7th of 6", -3, told("board b wide 1 at 3;").sure(7, 0));
    }

    private static void ask() {
        promise(41, "ASK what 0: the STROKE, 1: how many are left at the most; NONE if none FITS, or for another what.");
        BoardCrossing x = told(WIDE);
        for (int what : new int[] {-1, 2, LOW, HIGH}) {
            due("ask(" + what + ", 0)", -1, x.ask(what, 0));
        }
        x.passed(1, 0, false);
        due("ask(0, 0) of none", -1, x.ask(0, 0));
        due("ask(1, 0) of none", -1, x.ask(1, 0));
        due("ask(0, 0) without BOARDS", -1, new BoardCrossing().ask(0, 0));
        due("ask(1, 0) without BOARDS", -1, new BoardCrossing().ask(1, 0));
        x = told("board b wide 1 at 3;");
        due("ask(0, 0) of the most", 1, x.ask(0, 0));
        due("ask(1, 0) of the most", 243, x.ask(1, 0));
    }

    // promises 42 and 43

    /** All that is kept: where boards are, heat, scorches, strokes, where loads are, the seed. */
    private static final String KEPT = "water 8 by 2;board a wide 9 at 2 bears 3;board b wide 9 at 5 bears 3;load k wide 1;load l wide 2;load m wide 3;heat 2;draw 5;";

    private static void image() {
        promise(42, "Where BOARDS are, HEAT, SCORCHES, STROKES, where LOADS are, the SEED are kept in a BOX 0 .. 2: how many LOADS are on the far bank;");
        BoardCrossing x = told(KEPT);
        due("image(0) at first", 0, x.image(0));
        x.stow(0, 0);
        x.stow(1, 0);
        x.stroke(0, 1, true);
        x.stroke(0, 1, true);
        x.take(0);
        int[] one = scene(x);
        due("SCORCHES", 1, x.board(0, 3));
        due("image(1) with one over", 1, x.image(1));
        x.take(1);
        x.stroke(0, 0, false);
        int[] two = scene(x);
        due("image(2) with two over", 2, x.image(2));
        x.stow(2, 1);
        x.stroke(1, -1, true);
        due("back(1)", 1, x.back(1));
        same("back(1)", one, scene(x));
        due("back(2)", 2, x.back(2));
        same("back(2)", two, scene(x));
        due("back(0)", 0, x.back(0));
        same("back(0)", scene(told(KEPT)), scene(x));
        x.stroke(1, 0, true);
        x.image(0);
        x.stroke(1, 0, true);
        x.back(0);
        due("the box is filled anew", 1, x.board(1, 1));
    }

    private static int[] scene(BoardCrossing x) {
        int[] all = new int[14];
        for (int board = 0; board < 2; board++) {
            for (int what = 0; what <= 4; what++) {
                all[board * 5 + what] = x.board(board, what);
            }
        }
        for (int load = 0; load < 3; load++) {
            all[10 + load] = x.load(load, 1);
        }
        all[13] = x.about(5);
        return all;
    }

    private static void imageRefused() {
        promise(42, "NONE if there is none such.");
        for (int box : new int[] {-1, 3, 4, 32, 33, LOW, HIGH}) {
            BoardCrossing x = told(KEPT);
            due("image(" + box + ")", -1, x.image(box));
            for (int other = 0; other < 3; other++) {
                due("back(" + other + ")", -1, x.back(other));
            }
            due("back(" + box + ")", -1, x.back(box));
        }
    }

    private static void back() {
        promise(43, "All is as it was kept (no ACTS are kept then): how many LOADS are on the far bank;");
        BoardCrossing x = told(KEPT);
        x.stow(0, 0);
        x.image(2);
        x.stroke(0, 0, true);
        x.cool(0, 1);
        x.undo();
        due("about(6) before", 2, x.about(6));
        due("about(7) before", 1, x.about(7));
        due("back(2)", 0, x.back(2));
        due("about(6)", 0, x.about(6));
        due("about(7)", 0, x.about(7));
        due("undo()", false, x.undo());
        due("redo()", false, x.redo());
        due("the LOAD is on it", 0, x.load(0, 1));
        x.stroke(0, 0, true);
        due("undo() of what came then", true, x.undo());
        due("row", 0, x.board(0, 1));
        due("no further", false, x.undo());
        x.stroke(0, 0, true);
        due("the same box again", 0, x.back(2));
        due("row", 0, x.board(0, 1));
    }

    private static BoardCrossing amid() {
        BoardCrossing x = told(KEPT);
        x.image(1);
        x.stow(0, 0);
        x.stroke(1, 0, true);
        x.cool(1, 1);
        x.undo();
        x.trips(0);
        return x;
    }

    private static void backRefused() {
        promise(43, "NONE, doing nothing, if nothing was.");
        for (int box : new int[] {0, 2, 3, -1, 32, 33, -31, LOW, HIGH}) {
            refused("back(" + box + ")", -1, amid(), x -> x.back(box));
        }
        due("back(1)", 0, amid().back(1));
        refused("back(0) of a new object", -1, new BoardCrossing(), x -> x.back(0));
    }

    // promise 44

    private static void about() {
        promise(44, "What 0: BOARDS, 1: LOADS, 2: COLUMNS, 3: STROKES from bank to bank, 4: flood, 5: the SEED, 6: ACTS that can be undone, 7: redone,"
            + " 8: what is SEEN, 9: the TIME, 10: bytes on the TAPE, 11: units, 12: numbers that lie there.");
        BoardCrossing x = told("water 8 by 6;board a wide 1 at 0;board b wide 1 at 0;board c wide 1 at 0;board d wide 1 at 0;"
            + "load a wide 9;load b wide 1;load c wide 1;load d wide 1;load e wide 1;load f wide 1;load g wide 1;"
            + "heat 1" + "+1".repeat(29) + ";flood 100;draw 999;");
        int[] first = {4, 7, 8, 6, 100, 999, 0, 0, 0, 0, 0, 30, 0};
        for (int what = 0; what <= 12; what++) {
            due("about(" + what + ") at first", first[what], x.about(what));
        }
        for (int i = 0; i < 41; i++) {
            x.cool(0, 1);
        }
        due("ACTS, the most", 40, x.about(6));
        for (int i = 0; i < 40; i++) {
            x.undo();
        }
        due("redone, the most", 40, x.about(7));
        due("undone, none", 0, x.about(6));
        for (int i = 0; i < 31; i++) {
            x.passed(1, 0, true);
        }
        x.untell(0);
        due("SEEN, the most, UNTOLD or not", 30, x.about(8));
        for (int i = 0; i < 101; i++) {
            x.later(1000);
        }
        due("the TIME, the most", 100000, x.about(9));
        for (int i = 0; i < 81; i++) {
            x.feed(0, 0, 0, 0, 0);
        }
        due("bytes, the most", 1600, x.about(10));
        x.mooring(0);
        due("numbers, one for each BOARD", 4, x.about(12));
        x = told("board a wide 9 at 0;load a wide 9;load b wide 1;load c wide 1;load d wide 1;load e wide 1;load f wide 1;load g wide 1;");
        x.trips(0);
        due("numbers, the most", 7, x.about(12));
        x.trips(1);
        due("numbers, none", 0, x.about(12));
        due("units, none", 0, x.about(11));
        x = told("water 1 by 1;");
        due("COLUMNS, the fewest", 1, x.about(2));
        due("STROKES, the fewest", 1, x.about(3));
    }

    private static void aboutAnother() {
        promise(44, "NONE for another what.");
        BoardCrossing x = told(WIDE);
        for (int what : new int[] {-1, 13, 14, LOW, HIGH}) {
            due("about(" + what + ")", -1, x.about(what));
        }
    }

    // Terms

    private static void thirty() {
        terms("35, 36, 44", "SEEN, 30 at most, is TOLD at a TIME");
        BoardCrossing x = seen(29);
        due("the 30th", 29, x.felt(1, 0, true));
        due("the 31st", -1, x.felt(1, 0, true));
        due("the 31st", -1, x.passed(1, 0, true));
        due("about(8)", 30, x.about(8));
        x.untell(3);
        due("UNTOLD ones were SEEN, too", -1, x.passed(1, 0, true));
        Check.tell(x, WIDE);
        due("of another RIVER", 0, x.passed(1, 0, true));
    }

    private static void timeGoesOn() {
        terms("35, 36, 37, 38", "(0 at first, goes on)");
        BoardCrossing x = told(WIDE);
        due("at first", 0, x.about(9));
        x.passed(1, 4, true);
        due("TOLD at 0", 9, x.fits(0));
        due("before 0", 27, x.fits(-1));
        x.later(10);
        x.passed(2, 5, true);
        due("TOLD at 10, known at 9", 9, x.fits(9));
        due("known at 10", 3, x.fits(10));
    }

    private static void untoldAtTheSame() {
        terms("37, 39", "UNTOLD at a later one or the same,");
        BoardCrossing x = told(WIDE);
        x.later(7);
        x.passed(1, 4, true);
        x.untell(0);
        due("TOLD and UNTOLD at 7, known at 6", 27, x.fits(6));
        due("known at 7", 27, x.fits(7));
        due("known at 8", 27, x.fits(8));
        x.passed(1, 4, true);
        x.later(1);
        x.untell(1);
        due("UNTOLD at 8, known at 7", 9, x.fits(7));
        due("known at 8", 27, x.fits(8));
    }

    private static void firstBoard() {
        terms("35, 36, 39", "of the first BOARD (as told, nothing on it, no floods),");
        BoardCrossing x = told("water 8 by 2;current 1 at 0 0;board a wide 9 at 0 bears 9;board b wide 8 at 7 bears 0;load k wide 5;heat load+hot+strokes+wide/9;flood 100;");
        x.stow(0, 0);
        x.stroke(0, 1, true);
        x.stroke(0, 1, true);
        x.passed(1, 2, true);
        due("column 2 by steer 1 alone, without a flood", 3, x.fits(0));
        due("that it was steered by 1", 1, x.sure(1, 0));
        x.untell(0);
        x.felt(1, 1, true);
        x.felt(1, 2, false);
        due("HEAT 1 with nothing on it", 9, x.fits(0));
        x.felt(2, 4, true);
        x.felt(2, 5, false);
        due("1 more by 1 and 1 and 1", 9, x.fits(0));
        x.passed(1, 6, true);
        due("not the second BOARD", 0, x.fits(0));
    }

    private static void mayHiss() {
        terms("35, 36, 39", "that went out by as many STROKES as there are, each with some steer (it may HISS; then it may not come over):");
        String text = "water 5 by 3;iron 2 1;board b wide 3 at 2;heat row+1;";
        BoardCrossing x = told(text);
        due("all steers", 27, x.fits(0));
        x.passed(1, 2, true);
        x.passed(1, 3, false);
        due("in column 2 behind 1: it HISSED", 9, x.fits(0));
        due("steered by 0", 0, x.sure(1, 0));
        x.felt(2, 3, true);
        due("from row 0 again it is 2, not 3", 0, x.fits(0));
        x.untell(0);
        x.untell(1);
        due("from row 1 it is 3", 18, x.fits(0));
        x.untell(2);
        x.passed(1, 2, true);
        x.passed(1, 3, false);
        x.passed(3, 2, true);
        x.passed(3, 3, false);
        x.passed(2, 2, true);
        x.passed(2, 3, false);
        due("it HISSED three times and did not come over", 1, x.fits(0));
        x = told("water 5 by 4;iron 2 2;current 2 at 2 1;current 1 at 4 2;iron 1 3;board b wide 3 at 2 bears 99;heat row*20;");
        x.passed(2, 4, true);
        due("by 0 and 0, by 0 and 1, by 1 and 1", 27, x.fits(0));
        x.felt(3, 60, true);
        x.felt(3, 61, false);
        due("20 from row 1, 40 from row 2", 27, x.fits(0));
        x.felt(4, 99, true);
        due("60 from row 3", 27, x.fits(0));
        x = told("water 1 by 2;iron 0 1;board b wide 3 at 0 bears 1;");
        due("it always HISSES", 9, x.fits(0));
        x.felt(2, 1, true);
        due("SCORCHED behind 2", 0, x.fits(0));
    }

    private static void columnOrHeat() {
        terms("35, 36", "that behind so many STROKES (1 .. all) its column was so much at least, or was not; its HEAT was, or was not.");
        BoardCrossing x = told(WIDE);
        due("behind 0", -1, x.passed(0, 3, true));
        due("behind 4 of 3", -1, x.felt(4, 3, true));
        x.passed(1, 4, true);
        due("4 at least behind 1", 9, x.fits(0));
        x = told(WIDE);
        x.passed(1, 4, false);
        due("3 at most behind 1", 18, x.fits(0));
        x = told(WIDE);
        x.passed(3, 6, true);
        due("6 at least behind all", 1, x.fits(0));
        x = told(WIDE);
        x.felt(3, 3, true);
        due("HEAT 3 at least behind all", 27, x.fits(0));
        x.felt(3, 3, false);
        due("and not", 0, x.fits(0));
        x = told("water 8 by 3;board b wide 3 at 3 bears 9;heat column;");
        x.felt(2, 8, true);
        due("3, and 4 from column 4 are 7: none", 0, x.fits(0));
        x.untell(0);
        x.felt(2, 7, true);
        due("from column 4", 9, x.fits(0));
        x.felt(3, 0, true);
        x.felt(3, 1, false);
        due("SCORCHED behind 3, HEAT 0", 9, x.fits(0));
        for (int strokes = 1; strokes <= 6; strokes++) {
            for (int heat = strokes - 1; heat <= strokes + 1; heat++) {
                x = told("board b wide 3 at 3;");
                x.felt(strokes, heat, true);
                due(heat + " at least behind " + strokes, heat > strokes ? 0 : 729, x.fits(0));
                x = told("board b wide 3 at 3;");
                x.felt(strokes, heat, false);
                due("not " + heat + " at least behind " + strokes, heat > strokes ? 729 : 0, x.fits(0));
            }
            x = told("water 1 by 6;board b wide 3 at 0;");
            x.passed(strokes, 1, false);
            due("not 1 at least behind " + strokes, 729, x.fits(0));
            x.passed(strokes, 1, true);
            due("1 at least behind " + strokes, 0, x.fits(0));
        }
    }

    private static void knownAt() {
        terms("39, 40, 41", "As known at k that counts that was TOLD at k or before, not UNTOLD at k or before.");
        BoardCrossing x = told(WIDE);
        x.later(5);
        x.passed(1, 4, true);
        x.later(5);
        x.untell(0);
        int[][] want = {{LOW, 27}, {-1, 27}, {4, 27}, {5, 9}, {6, 9}, {9, 9}, {10, 27}, {11, 27}, {HIGH, 27}};
        for (int[] w : want) {
            due("fits(" + w[0] + ")", w[1], x.fits(w[0]));
            due("sure(1, " + w[0] + ")", w[1] == 9 ? 1 : -2, x.sure(1, w[0]));
            due("ask(0, " + w[0] + ")", w[1] == 9 ? 2 : 1, x.ask(0, w[0]));
            due("ask(1, " + w[0] + ")", w[1] / 3, x.ask(1, w[0]));
        }
    }

    private static void fitting() {
        terms("39", "FITS: steers, one for each STROKE, by which all that counts is so.");
        BoardCrossing x = told("water 8 by 6;board b wide 3 at 3;");
        x.passed(6, 7, true);
        due("all that lead to the outer column", waysTo7(), x.fits(0));
        x = told("water 1 by 6;board b wide 3 at 0;");
        due("steers that lead to one column are not the same", 729, x.fits(0));
        x.passed(1, 1, true);
        due("none", 0, x.fits(0));
        x = told("water 1 by 1;board b wide 3 at 0;");
        due("one STROKE", 3, x.fits(0));
    }

    /** How many of all steers lead from column 3 of eight to the last one in six strokes. */
    private static int waysTo7() {
        int ways = 0;
        for (int n = 0; n < 729; n++) {
            int column = 3;
            for (int i = 0, rest = n; i < 6; i++, rest /= 3) {
                column = Math.max(0, Math.min(7, column + rest % 3 - 1));
            }
            ways += column == 7 ? 1 : 0;
        }
        return ways;
    }

    private static void sureSteer() {
        terms("40", "SURE of a STROKE: the steer, if it is the same in all.");
        BoardCrossing x = told(WIDE);
        x.passed(2, 4, true);
        due("0 or 1, or all", -2, x.sure(1, 0));
        x.passed(1, 3, false);
        due("of none", -3, x.sure(1, 0));
        x = told(WIDE);
        x.passed(2, 5, true);
        due("1 in all", 1, x.sure(1, 0));
        due("1 in all", 1, x.sure(2, 0));
        due("not in all", -2, x.sure(3, 0));
        x = told("water 1 by 1;board b wide 3 at 0;");
        due("three steers to one column", -2, x.sure(1, 0));
        x = ledToTheOuter();
        due("any", -2, x.sure(1, 0));
        due("the next -1", -1, x.sure(2, 0));
    }

    /** All steers of the first stroke lead to column 7; that of the second one is known to be -1. */
    private static BoardCrossing ledToTheOuter() {
        BoardCrossing x = told("water 8 by 2;current 2 at 7 0;board b wide 3 at 7;");
        x.passed(2, 7, false);
        return x;
    }

    private static void asked() {
        terms("41", "ASK: the STROKE of which to know the steer would leave the fewest of these at the most; of like ones the first.");
        BoardCrossing x = told("water 8 by 2;board b wide 3 at 3;");
        due("3 by each", 1, x.ask(0, 0));
        due("3 at the most", 3, x.ask(1, 0));
        // Left are 0 with -1, 0, 1, and 1 with -1, 0: 3 at the most by the first, 2 by the second.
        x.passed(1, 3, true);
        x.passed(2, 5, false);
        due("five", 5, x.fits(0));
        due("the second", 2, x.ask(0, 0));
        due("2 at the most", 2, x.ask(1, 0));
        x = told("water 8 by 2;board b wide 3 at 3;");
        x.passed(2, 4, true);
        due("2 by each: the first", 1, x.ask(0, 0));
        due("2 at the most", 2, x.ask(1, 0));
        x = ledToTheOuter();
        due("the first of which nothing is known", 1, x.ask(0, 0));
        due("1 at the most", 1, x.ask(1, 0));
        x = told("water 8 by 2;board b wide 3 at 3;");
        x.passed(1, 3, false);
        due("-1 is known: the second", 2, x.ask(0, 0));
        due("1 at the most", 1, x.ask(1, 0));
        x = told("water 8 by 6;board b wide 3 at 1;");
        x.passed(6, 7, true);
        due("one that FITS", 1, x.fits(0));
        due("the first", 1, x.ask(0, 0));
        due("itself is left", 1, x.ask(1, 0));
        x = told("water 8 by 6;board b wide 3 at 1;");
        x.passed(5, 6, true);
        due("three that FIT", 3, x.fits(0));
        due("the last", 6, x.ask(0, 0));
        due("1 is left", 1, x.ask(1, 0));
    }
}
