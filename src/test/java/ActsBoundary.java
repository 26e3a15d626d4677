/** Promises 6 to 15, and what "Terms" says of BOARDS, STROKES and ACTS: one test for each sentence that names a boundary case. */
final class ActsBoundary extends Boundary {
    private static final String RIVER = "water 5 by 3;current 1 at 1 0;current 2 at 2 1;iron 4 2;"
        + "board ann wide 10 at 1 bears 4;board bob wide 6 at 3;"
        + "load a wide 5;load b wide 4;load c wide 6;load d wide 2;heat 1+load/5;flood 30;draw 9;";
    private static final String FOUR = "water 8 by 2;board a wide 1 at 0 bears 0;board b wide 2 at 7 bears 1;"
        + "board c wide 3 at 3 bears 99;board d wide 99 at 3;";
    private static final String SEVEN = "load c wide 14;load d wide 14;load e wide 14;load f wide 14;load g wide 14;load h wide 14;load i wide 15;";

    private ActsBoundary() {
    }

    static void run() {
        boardWhat();
        boardRefused();
        loadWhere();
        loadRefused();
        spotWhat();
        spotRefused();
        hotter();
        hotterRefused();
        strokeAnswers();
        strokeRefused();
        strokeIsAnAct();
        stow();
        stowRefused();
        stowIsAnAct();
        take();
        takeRefused();
        takeIsAnAct();
        cool();
        coolRefused();
        coolIsAnAct();
        undo();
        redo();
        atFirst();
        burden();
        whereLoadsAre();
        oneRow();
        outerColumns();
        hisses();
        eitherWay();
        cellItLeaves();
        ownStrokesAndHeat();
        wrapping();
        cutAndRest();
        relations();
        heatOfAStroke();
        scorched();
        whichStrokes();
        seed();
        flood();
        liesFlat();
        takenOff();
        cooled();
        acts();
    }

    // promises 6 to 9

    private static void boardWhat() {
        promise(6, "Of a BOARD what 0: column, 1: row, 2: HEAT, 3: SCORCHES, 4: STROKES, 5: wide, 6: bears, 7: BURDEN, 8: LOADS on it, as bits;");
        BoardCrossing x = told("water 8 by 6;board b wide 99 at 7 bears 98;heat 99-strokes*10;" + SEVEN);
        int[] first = {7, 0, 0, 0, 0, 99, 98, 0, 0};
        for (int what = 0; what <= 8; what++) {
            due("board(0, " + what + ") at first", first[what], x.board(0, what));
        }
        for (int load = 0; load < 7; load++) {
            x.stow(load, 0);
        }
        x.stroke(0, 0, true);
        x.stroke(0, -1, true);
        int[] then = {6, 2, 89, 1, 2, 99, 98, 99, 127};
        for (int what = 0; what <= 8; what++) {
            due("board(0, " + what + ") then", then[what], x.board(0, what));
        }
    }

    private static void boardRefused() {
        promise(6, "NONE if there is none such, or for another what.");
        BoardCrossing x = told(FOUR);
        due("the last BOARD", 3, x.board(3, 0));
        for (int what = 0; what <= 8; what++) {
            for (int board : new int[] {-1, 4, 5, LOW, HIGH}) {
                due("board(" + board + ", " + what + ")", -1, x.board(board, what));
            }
        }
        for (int what : new int[] {-1, 9, 10, LOW, HIGH}) {
            due("board(0, " + what + ")", -1, x.board(0, what));
            due("board(3, " + what + ")", -1, x.board(3, what));
        }
        due("board(0, 0) without BOARDS", -1, new BoardCrossing().board(0, 0));
        due("board(2, 0) of two", -1, told(RIVER).board(2, 0));
    }

    private static void loadWhere() {
        promise(7, "Of a LOAD what 0: wide, 1: the BOARD it is on (-1 on the near bank, -2 on the far one);");
        BoardCrossing x = told("water 1 by 1;board a wide 9 at 0;board b wide 9 at 0;board c wide 9 at 0;board d wide 99 at 0;"
            + "load k wide 0;load l wide 99;load m wide 1;");
        due("load(0, 0)", 0, x.load(0, 0));
        due("load(1, 0)", 99, x.load(1, 0));
        due("load(1, 1) at first", -1, x.load(1, 1));
        x.stow(1, 3);
        x.stow(0, 0);
        due("load(1, 1) on the last BOARD", 3, x.load(1, 1));
        due("load(0, 1) on the first BOARD", 0, x.load(0, 1));
        x.stroke(3, 0, true);
        due("load(1, 1) on a BOARD at the far bank", 3, x.load(1, 1));
        x.take(1);
        due("load(1, 1) on the far bank", -2, x.load(1, 1));
        due("load(2, 1) that stayed", -1, x.load(2, 1));
    }

    private static void loadRefused() {
        promise(7, "-3 if there is none such, or for another what.");
        BoardCrossing x = told("board a wide 9 at 0;" + SEVEN);
        due("the last LOAD", 15, x.load(6, 0));
        for (int load : new int[] {-1, 7, 8, LOW, HIGH}) {
            due("load(" + load + ", 0)", -3, x.load(load, 0));
            due("load(" + load + ", 1)", -3, x.load(load, 1));
        }
        for (int what : new int[] {-1, 2, LOW, HIGH}) {
            due("load(0, " + what + ")", -3, x.load(0, what));
            due("load(6, " + what + ")", -3, x.load(6, what));
        }
        due("load(0, 1) without LOADS", -3, new BoardCrossing().load(0, 1));
        due("load(4, 0) of four", -3, told(RIVER).load(4, 0));
    }

    private static void spotWhat() {
        promise(8, "Of a CELL what 0: current, 1: 1 if an iron is there, else 0;");
        BoardCrossing x = told("water 2 by 2;current 7 at 0 0;current 0 at 1 0;iron 1 1;current 3 at 1 1;");
        due("spot(0, 0, 0)", 7, x.spot(0, 0, 0));
        due("a current of 0", 0, x.spot(1, 0, 0));
        due("none told", 0, x.spot(0, 1, 0));
        due("current where an iron is", 3, x.spot(1, 1, 0));
        due("iron where a current is", 1, x.spot(1, 1, 1));
        due("no iron", 0, x.spot(0, 1, 1));
        due("the far bank's current", 0, x.spot(1, 2, 0));
        due("the far bank's iron", 0, x.spot(1, 2, 1));
    }

    private static void spotRefused() {
        promise(8, "NONE if there is none such, or for another what.");
        BoardCrossing x = told("water 5 by 3;current 7 at 4 2;");
        due("spot(4, 2, 0)", 7, x.spot(4, 2, 0));
        due("spot(4, 3, 0)", 0, x.spot(4, 3, 0));
        due("spot(0, 0, 1)", 0, x.spot(0, 0, 1));
        for (int what = 0; what <= 1; what++) {
            for (int wrong : new int[] {-1, 5, 8, LOW, HIGH}) {
                due("spot(" + wrong + ", 0, " + what + ")", -1, x.spot(wrong, 0, what));
            }
            for (int wrong : new int[] {-1, 4, 7, LOW, HIGH}) {
                due("spot(0, " + wrong + ", " + what + ")", -1, x.spot(0, wrong, what));
            }
        }
        for (int what : new int[] {-1, 2, LOW, HIGH}) {
            due("spot(4, 2, " + what + ")", -1, x.spot(4, 2, what));
        }
    }

    private static void hotter() {
        promise(9, "How much hotter the next STROKE makes a BOARD;");
        due("heat not told", 1, told(FOUR).hotter(3));
        due("heat 0", 0, told(FOUR + "heat 0;").hotter(3));
        due("below 0", 0, told(FOUR + "heat 0-1;").hotter(3));
        due("heat 99", 99, told(FOUR + "heat 99;").hotter(3));
        due("above 99", 99, told(FOUR + "heat 100;").hotter(3));
        BoardCrossing x = told("water 1 by 1;board b wide 9 at 0;heat 2+row*5+strokes;");
        due("out from the near bank", 2, x.hotter(0));
        x.stroke(0, 0, true);
        due("home from the far bank", 8, x.hotter(0));
    }

    private static void hotterRefused() {
        promise(9, "NONE if there is none such.");
        BoardCrossing x = told(FOUR);
        for (int board : new int[] {-1, 4, LOW, HIGH}) {
            due("hotter(" + board + ")", -1, x.hotter(board));
        }
        due("hotter(0) without BOARDS", -1, new BoardCrossing().hotter(0));
    }

    // promise 10

    private static void strokeAnswers() {
        promise(10, "A STROKE (steer -1 .. 1; out or home): 0, 1 if it HISSES, 2 if it is SCORCHED, 3 both;");
        BoardCrossing x = told("water 3 by 3;iron 1 1;board b wide 1 at 1 bears 1;board c wide 1 at 1;");
        due("steer 0: HISSES", 1, x.stroke(0, 0, true));
        due("steer 0: both", 3, x.stroke(0, 0, true));
        due("steer 1", 0, x.stroke(0, 1, true));
        due("column", 2, x.board(0, 0));
        due("steer 0: SCORCHED", 2, x.stroke(0, 0, true));
        due("steer -1", 0, x.stroke(1, -1, true));
        due("column", 0, x.board(1, 0));
        due("home: 1", 0, x.stroke(1, 1, false));
        due("column", 1, x.board(1, 0));
        due("row", 0, x.board(1, 1));
    }

    /** Two acts done and one taken back, so that there is something of all sorts to spoil. */
    private static BoardCrossing amid(String text) {
        BoardCrossing x = told(text);
        x.stow(1, 0);
        x.stroke(1, 0, true);
        x.cool(0, 1);
        x.undo();
        x.trips(0);
        return x;
    }

    private static void strokeRefused() {
        promise(10, "NONE, doing nothing, if one can't be. (An ACT.)");
        for (int board : new int[] {-1, 2, 4, LOW, HIGH}) {
            refused("stroke(" + board + ", 0, true)", -1, amid(RIVER), x -> x.stroke(board, 0, true));
        }
        for (int steer : new int[] {-2, 2, LOW, HIGH}) {
            refused("stroke(0, " + steer + ", true)", -1, amid(RIVER), x -> x.stroke(0, steer, true));
            refused("stroke(1, " + steer + ", false)", -1, amid(RIVER), x -> x.stroke(1, steer, false));
        }
        refused("home from the near bank", -1, amid(RIVER), x -> x.stroke(0, 0, false));
        BoardCrossing far = amid("water 3 by 1;board a wide 9 at 0;board b wide 9 at 1;load k wide 1;load l wide 1;draw 9;");
        refused("out from the far bank", -1, far, x -> x.stroke(1, 0, true));
        due("home from the far bank", 0, far.stroke(1, 0, false));
        due("stroke(0, 0, true) without BOARDS", -1, new BoardCrossing().stroke(0, 0, true));
    }

    private static void strokeIsAnAct() {
        promise(10, "(An ACT.)");
        BoardCrossing x = told("water 3 by 2;iron 1 1;board b wide 1 at 1 bears 1;draw 9;");
        x.stroke(0, 1, true);
        due("about(6)", 1, x.about(6));
        x.undo();
        int[] before = look(x);
        x.stroke(0, 0, true);
        due("a HISS is one, too", 1, x.about(6));
        due("undo()", true, x.undo());
        same("undone", before, look(x));
    }

    // promises 11 to 13

    private static void stow() {
        promise(11, "A LOAD is put on: BURDEN then;");
        BoardCrossing x = told("water 1 by 1;board b wide 99 at 0;board c wide 0 at 0;load y wide 0;load z wide 0;" + SEVEN.substring(SEVEN.indexOf("load e")));
        due("of nothing on nothing", 0, x.stow(0, 1));
        due("of nothing", 0, x.stow(1, 0));
        for (int load = 2; load < 6; load++) {
            due("stow(" + load + ", 0)", (load - 1) * 14, x.stow(load, 0));
        }
        due("stow(6, 0)", 71, x.stow(6, 0));
        due("LOADS on it", 126, x.board(0, 8));
        x.stroke(0, 0, true);
        x.take(6);
        due("from the far bank", 71, x.stow(6, 0));
    }

    private static void stowRefused() {
        promise(11, "NONE, doing nothing, if it is on a BOARD, on the other bank, does not lie flat, or one can't be.");
        refused("it is on that BOARD", -1, amid(RIVER), x -> x.stow(1, 0));
        BoardCrossing two = amid("water 3 by 1;board a wide 9 at 0;board b wide 9 at 1;board c wide 9 at 1;load k wide 1;load l wide 1;");
        refused("it is on another BOARD", -1, two, x -> x.stow(1, 2));
        refused("the BOARD is at the far bank", -1, two, x -> x.stow(0, 1));
        two.stow(0, 2);
        two.stroke(2, 0, true);
        two.take(0);
        refused("the LOAD is on the far bank", -1, two, x -> x.stow(0, 0));
        refused("the BOARD is in the river", -1, amid(RIVER), x -> x.stow(3, 1));
        refused("it does not lie flat: 4 and 6 and 2 of 10", -1, flatFull(), x -> x.stow(3, 0));
        for (int load : new int[] {-1, 4, 7, LOW, HIGH}) {
            refused("stow(" + load + ", 0)", -1, amid(RIVER), x -> x.stow(load, 0));
        }
        for (int board : new int[] {-1, -2, 2, 4, LOW, HIGH}) {
            refused("stow(0, " + board + ")", -1, amid(RIVER), x -> x.stow(0, board));
        }
        due("stow(0, 0) without LOADS", -1, told("board b wide 9 at 0;").stow(0, 0));
        due("stow(0, 0) without BOARDS", -1, told("load b wide 9;").stow(0, 0));
    }

    private static BoardCrossing flatFull() {
        BoardCrossing x = amid(RIVER);
        due("4 and 6 of 10", 10, x.stow(2, 0));
        return x;
    }

    private static void stowIsAnAct() {
        promise(11, "(An ACT.)");
        BoardCrossing x = told(RIVER);
        int[] before = look(x);
        x.stow(3, 0);
        due("about(6)", 1, x.about(6));
        due("undo()", true, x.undo());
        // about(7): what was undone can be redone now.
        before[7]++;
        same("undone", before, look(x));
        due("redo()", true, x.redo());
        due("load(3, 1)", 0, x.load(3, 1));
    }

    private static void take() {
        promise(12, "A LOAD is taken off: from which BOARD;");
        BoardCrossing x = told("water 1 by 1;board a wide 9 at 0;board b wide 9 at 0;board c wide 9 at 0;board d wide 9 at 0;load k wide 0;load l wide 9;");
        x.stow(0, 0);
        x.stow(1, 3);
        due("take(0)", 0, x.take(0));
        due("load(0, 1)", -1, x.load(0, 1));
        x.stroke(3, 0, true);
        due("take(1)", 3, x.take(1));
        due("load(1, 1)", -2, x.load(1, 1));
        due("BURDEN", 0, x.board(3, 7));
    }

    private static void takeRefused() {
        promise(12, "NONE, doing nothing, if it is on none, that is at no bank, or there is none such.");
        refused("it is on the near bank", -1, amid(RIVER), x -> x.take(0));
        BoardCrossing over = told("water 3 by 1;board a wide 9 at 0;load k wide 1;load l wide 1;");
        over.stow(0, 0);
        over.stroke(0, 0, true);
        over.take(0);
        refused("it is on the far bank", -1, over, x -> x.take(0));
        for (int row = 1; row <= 2; row++) {
            BoardCrossing out = told("water 5 by 3;board a wide 9 at 0;load k wide 1;load l wide 1;");
            out.stow(1, 0);
            for (int i = 0; i < row; i++) {
                out.stroke(0, 0, true);
            }
            due("row", row, out.board(0, 1));
            refused("the BOARD is at no bank", -1, out, x -> x.take(1));
        }
        for (int load : new int[] {-1, 4, 7, LOW, HIGH}) {
            refused("take(" + load + ")", -1, amid(RIVER), x -> x.take(load));
        }
        due("take(0) without LOADS", -1, told("board b wide 9 at 0;").take(0));
    }

    private static void takeIsAnAct() {
        promise(12, "(An ACT.)");
        BoardCrossing x = told(RIVER);
        x.stow(3, 0);
        x.take(3);
        due("about(6)", 2, x.about(6));
        due("undo()", true, x.undo());
        due("load(3, 1)", 0, x.load(3, 1));
        due("redo()", true, x.redo());
        due("load(3, 1)", -1, x.load(3, 1));
    }

    private static void cool() {
        promise(13, "Cooled by some HEAT (1 .. 9; 0 at least): HEAT then;");
        BoardCrossing x = told("board b wide 1 at 1 bears 99;heat 12;");
        x.stroke(0, 0, true);
        due("cool(0, 1)", 11, x.cool(0, 1));
        due("cool(0, 9)", 2, x.cool(0, 9));
        due("cool(0, 2)", 0, x.cool(0, 2));
        x.stroke(0, 0, true);
        x.cool(0, 9);
        due("cool(0, 9) of 3", 0, x.cool(0, 9));
        due("cool(0, 1) of 0", 0, x.cool(0, 1));
        due("board(0, 2)", 0, x.board(0, 2));
    }

    private static void coolRefused() {
        promise(13, "NONE, doing nothing, if one can't be.");
        for (int much : new int[] {0, 10, -1, 11, LOW, HIGH}) {
            BoardCrossing x = amid(RIVER);
            due("HEAT", 1, x.board(1, 2));
            refused("cool(1, " + much + ")", -1, x, y -> y.cool(1, much));
        }
        for (int board : new int[] {-1, 2, 4, LOW, HIGH}) {
            refused("cool(" + board + ", 1)", -1, amid(RIVER), x -> x.cool(board, 1));
        }
        due("cool(0, 1) without BOARDS", -1, new BoardCrossing().cool(0, 1));
    }

    private static void coolIsAnAct() {
        promise(13, "(An ACT.)");
        BoardCrossing x = told(RIVER);
        x.cool(0, 9);
        due("about(6), though it was cold", 1, x.about(6));
        x.stroke(0, 0, true);
        x.cool(0, 1);
        due("undo()", true, x.undo());
        due("HEAT", 1, x.board(0, 2));
        due("redo()", true, x.redo());
        due("HEAT", 0, x.board(0, 2));
    }

    // promises 14 and 15

    private static void undo() {
        promise(14, "UNDO: true; false if there is none.");
        due("of a new object", false, new BoardCrossing().undo());
        BoardCrossing x = told(RIVER);
        refused("undo() of none", 0, x, y -> y.undo() ? 1 : 0);
        x.cool(0, 1);
        due("of one", true, x.undo());
        refused("undo() of none that was not", 0, x, y -> y.undo() ? 1 : 0);
        due("the one can be redone", 1, x.about(7));
    }

    private static void redo() {
        promise(15, "REDO: true; false if there is none.");
        due("of a new object", false, new BoardCrossing().redo());
        BoardCrossing x = told(RIVER);
        refused("redo() of none", 0, x, y -> y.redo() ? 1 : 0);
        x.cool(0, 1);
        refused("redo() of none that was taken back", 0, x, y -> y.redo() ? 1 : 0);
        x.undo();
        due("of one", true, x.redo());
        refused("redo() of no more", 0, x, y -> y.redo() ? 1 : 0);
    }

    // Terms: boards and strokes

    private static void atFirst() {
        terms("6", "A BOARD is at a CELL (its own, at first), has HEAT, SCORCHES, made so many STROKES (all 0 at first).");
        BoardCrossing x = told(FOUR);
        int[] columns = {0, 7, 3, 3};
        for (int board = 0; board < 4; board++) {
            due("column", columns[board], x.board(board, 0));
            for (int what = 1; what <= 4; what++) {
                due("board(" + board + ", " + what + ")", 0, x.board(board, what));
            }
        }
    }

    private static void burden() {
        terms("6, 9, 11", "BURDEN of it: how wide all LOADS on it are together.");
        BoardCrossing x = told("board b wide 99 at 0;board c wide 99 at 0;heat load;" + SEVEN);
        due("of none", 0, x.board(0, 7));
        due("hotter(0) of none", 0, x.hotter(0));
        for (int load = 0; load < 7; load++) {
            x.stow(load, 0);
        }
        due("of all", 99, x.board(0, 7));
        due("hotter(0) of all", 99, x.hotter(0));
        due("of the other one", 0, x.board(1, 7));
        x.take(6);
        x.stow(6, 1);
        due("without the last", 84, x.board(0, 7));
        due("of the last alone", 15, x.board(1, 7));
    }

    private static void oneRow() {
        terms("10", "A STROKE out or home: from its CELL a BOARD goes one row on (out) or back (home), and");
        BoardCrossing x = told("water 1 by 6;board b wide 1 at 0;");
        for (int row = 1; row <= 6; row++) {
            x.stroke(0, 0, true);
            due("row on", row, x.board(0, 1));
        }
        for (int row = 5; row >= 0; row--) {
            x.stroke(0, 0, false);
            due("row back", row, x.board(0, 1));
        }
    }

    private static void whereLoadsAre() {
        terms("7, 11, 12", "A LOAD is on a bank or on a BOARD.");
        BoardCrossing x = told("water 1 by 2;board a wide 9 at 0;board b wide 9 at 0;board c wide 9 at 0;board d wide 9 at 0;load k wide 1;");
        for (int board = 0; board < 4; board++) {
            due("on the near bank", -1, x.load(0, 1));
            x.stow(0, board);
            due("on a BOARD", board, x.load(0, 1));
            for (int other = 0; other < 4; other++) {
                due("LOADS on " + other, other == board ? 1 : 0, x.board(other, 8));
            }
            x.take(0);
        }
        x.stow(0, 3);
        x.stroke(3, 0, true);
        due("on it in the river", 3, x.load(0, 1));
        x.stroke(3, 0, true);
        x.take(0);
        due("on the far bank", -2, x.load(0, 1));
        due("LOADS on it", 0, x.board(3, 8));
    }

    private static void outer(String text, int steer, int want) {
        BoardCrossing x = told(text);
        x.stroke(0, steer, true);
        due("column behind steer " + steer + " of \"" + text + "\"", want, x.board(0, 0));
        due("row", 1, x.board(0, 1));
    }

    private static void outerColumns() {
        terms("10", "by its steer (-1, 0, 1) and the current at the CELL that it leaves (twice as much in a FLOOD) to other columns, no further than the outer ones;");
        outer("board b wide 1 at 0;", -1, 0);
        outer("board b wide 1 at 0;", 1, 1);
        outer("board b wide 1 at 7;", 1, 7);
        outer("board b wide 1 at 7;", -1, 6);
        outer("board b wide 1 at 0;current 7 at 0 0;", 0, 7);
        outer("board b wide 1 at 0;current 7 at 0 0;", -1, 6);
        outer("board b wide 1 at 0;current 7 at 0 0;", 1, 7);
        outer("board b wide 1 at 0;current 1 at 0 0;", -1, 0);
        outer("board b wide 1 at 7;current 1 at 7 0;", -1, 7);
        outer("board b wide 1 at 7;current 7 at 7 0;flood 100;", -1, 7);
        outer("board b wide 1 at 0;current 3 at 0 0;flood 100;", 0, 6);
        outer("board b wide 1 at 0;current 3 at 0 0;flood 100;", 1, 7);
        outer("board b wide 1 at 0;current 4 at 0 0;flood 100;", -1, 7);
        outer("board b wide 1 at 0;current 4 at 0 0;flood 100;", 0, 7);
        for (int steer = -1; steer <= 1; steer++) {
            outer("water 1 by 2;board b wide 1 at 0;current 7 at 0 0;", steer, 0);
            outer("water 1 by 1;board b wide 1 at 0;", steer, 0);
        }
        BoardCrossing x = told("water 3 by 2;board b wide 1 at 2;current 2 at 2 0;current 1 at 2 1;");
        x.stroke(0, 1, true);
        x.stroke(0, 1, false);
        due("home, too", 2, x.board(0, 0));
        due("row", 0, x.board(0, 1));
        x = told("water 3 by 2;board b wide 1 at 0;current 2 at 1 0;current 0 at 0 0;");
        x.stroke(0, 1, true);
        due("not the current of the CELL that it comes to", 1, x.board(0, 0));
    }

    private static void hisses() {
        terms("10", "if an iron is there, it HISSES and stays where it is.");
        BoardCrossing x = told("water 2 by 2;iron 1 1;board b wide 1 at 1;board c wide 1 at 0;");
        due("out, by no steer", 1, x.stroke(0, 0, true));
        due("out, held at the outer column", 1, x.stroke(0, 1, true));
        due("out, by steer", 1, x.stroke(1, 1, true));
        due("column", 0, x.board(1, 0));
        due("row", 0, x.board(1, 1));
        due("out beside it", 0, x.stroke(1, 0, true));
        x.stroke(1, 1, true);
        due("over", 2, x.board(1, 1));
        due("home", 1, x.stroke(1, 0, false));
        due("it stays on the far bank", 2, x.board(1, 1));
        due("in its column", 1, x.board(1, 0));
        x = told("water 3 by 3;iron 2 1;current 1 at 0 0;board b wide 1 at 0;flood 100;");
        due("by the flood", 1, x.stroke(0, 0, true));
        due("not by another steer", 0, x.stroke(0, -1, true));
    }

    private static void eitherWay() {
        terms("10", "Either way it made a STROKE more, its HEAT is more by what comes of heat (1, if it is not told)");
        BoardCrossing x = told("water 2 by 3;iron 1 1;board b wide 1 at 1;");
        x.stroke(0, 0, true);
        due("STROKES behind a HISS", 1, x.board(0, 4));
        due("HEAT behind a HISS", 1, x.board(0, 2));
        x.stroke(0, -1, true);
        due("STROKES", 2, x.board(0, 4));
        due("HEAT", 2, x.board(0, 2));
        x = told("water 2 by 3;iron 1 1;board b wide 1 at 1;heat 0;");
        x.stroke(0, 0, true);
        due("STROKES", 1, x.board(0, 4));
        due("HEAT more by 0", 0, x.board(0, 2));
    }

    private static void cellItLeaves() {
        terms("9, 10", "by row, column (of the CELL it leaves)");
        BoardCrossing x = told("water 8 by 2;current 7 at 0 0;board b wide 1 at 0 bears 99;heat row*10+column;");
        x.stroke(0, 0, true);
        due("from row 0, column 0", 0, x.board(0, 2));
        x.stroke(0, -1, true);
        due("from row 1, column 7", 17, x.board(0, 2));
        x.stroke(0, 0, false);
        due("home from row 2, column 6", 17 + 26, x.board(0, 2));
    }

    private static void ownStrokesAndHeat() {
        terms("9, 10", "load (its BURDEN), wide, strokes (its own, ahead of this), hot (its HEAT;");
        BoardCrossing y = told("water 1 by 1;board b wide 9 at 0;board c wide 8 at 0;load k wide 5;load l wide 3;heat load*10+wide;");
        y.stow(0, 0);
        y.stow(1, 1);
        due("5 on 9", 59, y.hotter(0));
        due("3 on 8", 38, y.hotter(1));
        y = told("water 1 by 2;board b wide 9 at 0;heat strokes;");
        y.stroke(0, 0, true);
        y.stroke(0, 0, false);
        due("STROKES, not the row", 2, y.hotter(0));
        BoardCrossing x = told("board b wide 1 at 0 bears 99;board c wide 1 at 0 bears 99;heat 1+strokes*20+hot;");
        x.stroke(0, 0, true);
        due("the first", 1, x.board(0, 2));
        x.stroke(0, 0, true);
        due("the second", 1 + 22, x.board(0, 2));
        due("another BOARD's first", 1, x.hotter(1));
        x.cool(0, 9);
        due("cooled", 1 + 40 + 14, x.hotter(0));
    }

    /** What comes of a formula for a board 9 wide in column 2 of the near bank, as cold as can be. */
    private static void comes(String formula, int want) {
        BoardCrossing x = told("water 4 by 3;board b wide 9 at 2 bears 99;heat " + formula + ";");
        due("hotter(0) by " + formula, want, x.hotter(0));
        x.stroke(0, 0, true);
        due("HEAT behind a STROKE by " + formula, want, x.board(0, 2));
    }

    private static void wrapping() {
        terms("9, 10", "ints, wrapping;");
        String least = "4096*4096*128";
        comes(least, 0);
        comes(least + " < 0", 1);
        comes(least + "-1 > 0", 1);
        comes(least + "-1+1 < 0", 1);
        comes("(" + least + "-1)*2 = 0-2", 1);
        comes("0-" + least + " = " + least, 1);
        comes(least + "*2+5", 5);
        comes("4096*4096*256+7", 7);
        comes("(" + least + ")/(0-1) = " + least, 1);
        comes("(" + least + ")%(0-1)", 0);
        comes("9999*9999*9999*9999*9999 = 9999*9999*(9999*9999)*9999", 1);
    }

    private static void cutAndRest() {
        terms("9, 10", "/ cut, % its rest, both by 0: 0;");
        comes("7/2", 3);
        comes("(0-7)/2 = 0-3", 1);
        comes("7/(0-2) = 0-3", 1);
        comes("(0-7)/(0-2)", 3);
        comes("1/2", 0);
        comes("7%2", 1);
        comes("(0-7)%2 = 0-1", 1);
        comes("7%(0-2)", 1);
        comes("(0-7)%(0-2) = 0-1", 1);
        comes("6%3", 0);
        comes("5/0+7", 7);
        comes("5%0+7", 7);
        comes("0/0+7", 7);
        comes("0%0+7", 7);
        comes("5/(2-column)+7", 7);
        comes("5%row+7", 7);
    }

    private static void relations() {
        terms("9, 10", "relations, and, or, not are 1 or 0, of what is not 0)");
        comes("1<2", 1);
        comes("2<2", 0);
        comes("3<2", 0);
        comes("3>2", 1);
        comes("2>2", 0);
        comes("1>2", 0);
        comes("2=2", 1);
        comes("2=3", 0);
        comes("0-1<0", 1);
        comes("0-1>0", 0);
        comes("(3<2)+(2>3)+(2=3)+5", 5);
        comes("(0 and 7)+(0 or 0)+(not 7)+5", 5);
        comes("(2<3)+(3>2)+(3=3)+(7 and 7)+(7 or 7)+(not 0)", 6);
        comes("7 and 9", 1);
        comes("7 and 0", 0);
        comes("0 and 7", 0);
        comes("0 and 0", 0);
        comes("7 or 9", 1);
        comes("7 or 0", 1);
        comes("0 or 7", 1);
        comes("0 or 0", 0);
        comes("0-1 and 0-2", 1);
        comes("0-1 or 0", 1);
        comes("4 and 3", 1);
        comes("not 0", 1);
        comes("not 7", 0);
        comes("not (0-1)", 0);
    }

    private static void heatOfAStroke() {
        terms("9, 10", "0 at least, 99 at most; the sum is 99 at most, too;");
        comes("0", 0);
        comes("0-1", 0);
        comes("0-9999", 0);
        comes("1", 1);
        comes("98", 98);
        comes("99", 99);
        comes("100", 99);
        comes("9999", 99);
        BoardCrossing x = told("water 2 by 6;board b wide 1 at 0 bears 99;heat 49+strokes;");
        x.stroke(0, 0, true);
        x.stroke(0, 0, true);
        due("49 and 50", 99, x.board(0, 2));
        due("and 51", 0, x.stroke(0, 0, true));
        due("99 at most", 99, x.board(0, 2));
        x = told("water 2 by 6;board b wide 1 at 0 bears 99;heat 99;");
        x.stroke(0, 0, true);
        due("99 and 99", 0, x.stroke(0, 0, true));
        due("99 at most", 99, x.board(0, 2));
    }

    private static void scorched() {
        terms("6, 10", "if that is more than it bears, it is SCORCHED once more (999 at most) and its HEAT is 0.");
        BoardCrossing x = told("water 1 by 1;board b wide 1 at 0 bears 2;board c wide 1 at 0 bears 0;");
        due("1 of 2", 0, x.stroke(0, 0, true));
        due("2 of 2", 0, x.stroke(0, 0, false));
        due("HEAT", 2, x.board(0, 2));
        due("3 of 2", 2, x.stroke(0, 0, true));
        due("HEAT", 0, x.board(0, 2));
        due("SCORCHES", 1, x.board(0, 3));
        due("1 of 0", 2, x.stroke(1, 0, true));
        due("1 of 0", 2, x.stroke(1, 0, false));
        due("SCORCHES", 2, x.board(1, 3));
        due("the other one's", 1, x.board(0, 3));
        x = told("water 1 by 1;board d wide 1 at 0 bears 98;heat 60;");
        x.stroke(0, 0, true);
        due("60 and 60 are 99, of 98", 2, x.stroke(0, 0, false));
        due("HEAT", 0, x.board(0, 2));
        due("0 of 0", 0, told("water 1 by 1;board b wide 1 at 0 bears 0;heat 0;").stroke(0, 0, true));
        // No run of 512 calls comes to 999, so more are made than an object is used for.
        x = told("water 1 by 1;board b wide 1 at 0 bears 0;");
        for (int i = 0; i < 1010; i++) {
            x.stroke(0, 0, i % 2 == 0);
            due("SCORCHES of " + (i + 1), Math.min(999, i + 1), x.board(0, 3));
        }
    }

    // Terms: acts

    private static void whichStrokes() {
        terms("10", "ACTS: a STROKE (out not from the far bank, home not from the near one)");
        for (int strokes = 1; strokes <= 6; strokes++) {
            BoardCrossing x = told("water 2 by " + strokes + ";board b wide 1 at 0;");
            due("home from the near bank", -1, x.stroke(0, 0, false));
            for (int i = 0; i < strokes; i++) {
                due("out", 0, x.stroke(0, 0, true));
            }
            due("out from the far bank", -1, x.stroke(0, 0, true));
            for (int i = 0; i < strokes; i++) {
                due("home", 0, x.stroke(0, 0, false));
            }
            due("home from the near bank", -1, x.stroke(0, 0, false));
            due("about(6)", 2 * strokes, x.about(6));
        }
    }

    private static void seed() {
        terms("10, 44", "the SEED (draw, at first) becomes its 137-fold and 71 more, modulo 1,000,");
        BoardCrossing x = told("water 1 by 1;board b wide 1 at 0;draw 999;");
        due("at first", 999, x.about(5));
        x.stroke(0, 0, true);
        due("behind 999", 934, x.about(5));
        x.stroke(0, 0, false);
        due("behind 934", 29, x.about(5));
        x.stroke(0, 0, false);
        due("behind none", 29, x.about(5));
        x.cool(0, 1);
        due("behind another ACT", 29, x.about(5));
        x = told("water 1 by 2;iron 0 1;board b wide 1 at 0;");
        x.stroke(0, 0, true);
        due("behind 0, by a HISS", 71, x.about(5));
        x = told("water 1 by 1;board b wide 1 at 0;draw 7;");
        x.stroke(0, 0, true);
        due("959 and 71", 30, x.about(5));
        x = told("water 1 by 1;board b wide 1 at 0;draw 577;");
        x.stroke(0, 0, true);
        due("79049 and 71", 120, x.about(5));
    }

    private static void floods(int draw, int flood, boolean is) {
        BoardCrossing x = told("water 8 by 1;board b wide 1 at 0;current 3 at 0 0;flood " + flood + ";draw " + draw + ";");
        x.stroke(0, 0, true);
        due("column by flood " + flood + " with the SEED " + x.about(5), is ? 6 : 3, x.board(0, 0));
    }

    private static void flood() {
        terms("10", "and it is a FLOOD, if its rest by 100 is less than flood tells.");
        // The SEED becomes 400, a rest of 0.
        floods(17, 0, false);
        floods(17, 1, true);
        // 304.
        floods(9, 4, false);
        floods(9, 5, true);
        // 99, and 799.
        floods(44, 99, false);
        floods(44, 100, true);
        floods(144, 99, false);
        floods(144, 100, true);
        // 578.
        floods(11, 78, false);
        floods(11, 79, true);
    }

    private static void liesFlat() {
        terms("11", "A LOAD is put on a BOARD that is at its bank, if it lies flat (BURDEN no more than wide then).");
        BoardCrossing x = told("water 1 by 2;board a wide 9 at 0;board b wide 8 at 0;board c wide 0 at 0;load k wide 9;load l wide 5;load m wide 4;load n wide 0;load o wide 1;");
        due("9 on 8", -1, x.stow(0, 1));
        due("9 on 9", 9, x.stow(0, 0));
        due("1 more", -1, x.stow(4, 0));
        due("0 more", 9, x.stow(3, 0));
        due("5 on 8", 5, x.stow(1, 1));
        due("4 more on 8", -1, x.stow(2, 1));
        due("1 on 0", -1, x.stow(4, 2));
        x.stroke(2, 0, true);
        x.take(3);
        due("0 on 0, but in the river", -1, x.stow(3, 2));
        x.stroke(2, 0, true);
        due("0 on 0, but at the other bank", -1, x.stow(3, 2));
    }

    private static void takenOff() {
        terms("12", "A LOAD is taken off a BOARD at a bank: it is on that bank.");
        BoardCrossing x = told("water 1 by 2;board a wide 9 at 0;load k wide 3;load l wide 3;load m wide 3;");
        for (int load = 0; load < 3; load++) {
            x.stow(load, 0);
        }
        x.take(0);
        due("at the near bank", -1, x.load(0, 1));
        x.stroke(0, 0, true);
        due("at none", -1, x.take(1));
        x.stroke(0, 0, true);
        x.take(1);
        due("at the far bank", -2, x.load(1, 1));
        due("one stays on it", 0, x.load(2, 1));
        x.stroke(0, 0, false);
        x.stroke(0, 0, false);
        x.take(2);
        due("at the near bank again", -1, x.load(2, 1));
    }

    private static void cooled() {
        terms("13", "A BOARD is cooled by some HEAT.");
        BoardCrossing x = told("water 1 by 3;board a wide 9 at 0 bears 99;board b wide 9 at 0 bears 99;heat 20;");
        x.stroke(1, 0, true);
        for (int much = 1; much <= 9; much++) {
            x.cool(1, much);
            due("HEAT without " + much, Math.max(0, 20 - much * (much + 1) / 2), x.board(1, 2));
        }
        due("STROKES", 1, x.board(1, 4));
        due("SCORCHES", 0, x.board(1, 3));
        due("the other one", 0, x.board(0, 2));
        x.stroke(0, 0, true);
        x.cool(1, 9);
        due("the other one", 20, x.board(0, 2));
    }

    private static void acts() {
        terms("14, 15, 44", "UNDO takes back the latest ACT that was not, REDO does that again which was taken back last (till another ACT); 40 at most are kept, the oldest go.");
        keptActs(40, 40, 0);
        keptActs(41, 40, 1);
        keptActs(90, 40, 50);
        BoardCrossing x = told("water 1 by 1;board b wide 9 at 0;load k wide 1;");
        for (int i = 0; i < 45; i++) {
            x.stroke(0, 0, i % 2 == 0);
        }
        for (int i = 0; i < 3; i++) {
            x.undo();
        }
        due("about(6)", 37, x.about(6));
        due("about(7)", 3, x.about(7));
        due("STROKES", 42, x.board(0, 4));
        due("REDO", true, x.redo());
        due("STROKES", 43, x.board(0, 4));
        x.stroke(0, 0, false);
        due("REDO behind another ACT", false, x.redo());
        due("about(6)", 39, x.about(6));
        x.stow(0, 0);
        x.take(0);
        due("about(6) when full again", 40, x.about(6));
        for (int i = 0; i < 40; i++) {
            due("undo()", true, x.undo());
        }
        due("undo() of the oldest", false, x.undo());
        due("STROKES", 6, x.board(0, 4));
        endsRedo();
    }

    private static void keptActs(int made, int kept, int gone) {
        BoardCrossing x = told("water 1 by 1;board b wide 1 at 0 bears 99;heat 1;");
        for (int i = 0; i < made; i++) {
            x.stroke(0, 0, i % 2 == 0);
        }
        due("about(6) behind " + made, kept, x.about(6));
        for (int i = 1; i <= kept; i++) {
            due("undo() " + i, true, x.undo());
            due("STROKES", made - i, x.board(0, 4));
        }
        due("undo() of one that went", false, x.undo());
        due("STROKES", gone, x.board(0, 4));
        due("about(7)", kept, x.about(7));
        for (int i = 1; i <= kept; i++) {
            due("redo() " + i, true, x.redo());
            due("STROKES", gone + i, x.board(0, 4));
            due("row", (gone + i) % 2, x.board(0, 1));
        }
        due("redo() of no more", false, x.redo());
    }

    private static BoardCrossing withRedo() {
        BoardCrossing x = told("water 2 by 1;board b wide 9 at 0;load k wide 1;load l wide 1;");
        x.stow(0, 0);
        x.cool(0, 1);
        x.undo();
        due("about(7)", 1, x.about(7));
        return x;
    }

    private static void endsRedo() {
        BoardCrossing x = withRedo();
        x.stroke(0, 0, true);
        due("REDO behind a STROKE", false, x.redo());
        x = withRedo();
        x.stow(1, 0);
        due("REDO behind a LOAD put on", false, x.redo());
        x = withRedo();
        x.take(0);
        due("REDO behind a LOAD taken off", false, x.redo());
        x = withRedo();
        x.cool(0, 2);
        due("REDO behind cooling", false, x.redo());
        x = withRedo();
        x.stroke(0, 2, true);
        x.stow(0, 0);
        x.take(1);
        x.cool(0, 10);
        x.image(0);
        x.coolest(0, 0);
        x.passed(1, 1, true);
        x.later(1);
        due("REDO behind what was no ACT", true, x.redo());
    }
}
