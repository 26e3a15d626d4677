/** Promises 16 to 34, and what "Terms" says of ROWS, LOADS and LANDINGS: one test for each sentence that names a boundary case. */
final class QuestionsBoundary extends Boundary {
    private static final int[] NO_BOARD = {-1, 2, 4, LOW, HIGH};
    private static final String TWO = "water 6 by 3;current 1 at 1 0;current 2 at 2 1;current 1 at 3 2;iron 4 2;iron 0 1;"
        + "board ann wide 10 at 1 bears 4;board bob wide 6 at 3 bears 2;"
        + "load a wide 5;load b wide 4;load c wide 6;heat 1+load/5+column%2;draw 9;";
    private static final String WALL = "water 3 by 2;iron 0 1;iron 1 1;iron 2 1;board b wide 1 at 1;board c wide 1 at 1;";

    private QuestionsBoundary() {
    }

    static void run() {
        byWhatIsNow();
        rowsOfSteers();
        landingColumns();
        landings();
        drift();
        rows();
        coolestRow();
        coolest();
        coolestLies();
        straightestRow();
        straight();
        straightLies();
        widestLoads();
        widest();
        tripsOfABoard();
        trips();
        tripsLie();
        stowingOfAll();
        stowing();
        stowingLies();
        meetOfTwo();
        meet();
        mooringOfAll();
        mooring();
        mooringLies();
        guestsOfOne();
        guests();
        guestsLie();
        singeOfABoard();
        singe();
        oddsOfALanding();
        odds();
        over();
        left();
        pulled();
        hottest();
        law();
        lies();
    }

    private static BoardCrossing out(String text, int board, int strokes) {
        BoardCrossing x = told(text);
        for (int i = 0; i < strokes; i++) {
            x.stroke(board, 0, true);
        }
        return x;
    }

    private static int[] answers(BoardCrossing x) {
        return new int[] {x.landings(0), x.landings(1), x.drift(0), x.drift(1), x.rows(0), x.rows(1), x.coolest(0, 0), x.coolest(0, 1),
            x.coolest(0, 2), x.lies(0), x.lies(1), x.lies(2), x.coolest(1, 0), x.coolest(1, 1), x.straight(0, 3), x.lies(0), x.lies(1),
            x.lies(2), x.straight(1, 3), x.widest(0, 0), x.widest(0, 1), x.trips(0), x.stowing(), x.meet(0, 1), x.mooring(0),
            x.mooring(1), x.guests(0, 1), x.lies(0), x.lies(1), x.singe(0), x.singe(1), x.hotter(0), x.pulled(), x.hottest()};
    }

    private static void byWhatIsNow() {
        terms("16, 17, 18, 19, 20, 21, 22, 23, 24, 25, 26, 27", "(By what is now; nothing is done; no floods, if not told otherwise.)");
        BoardCrossing calm = told(TWO);
        calm.stow(1, 0);
        calm.cool(0, 1);
        calm.undo();
        calm.guests(0, 1);
        int[] before = look(calm);
        int[] first = answers(calm);
        calm.odds(0, 3, 0);
        calm.guests(0, 1);
        same("nothing is done", before, look(calm));
        BoardCrossing flooded = told(TWO + "flood 100;");
        flooded.stow(1, 0);
        same("no floods", first, answers(flooded));
        BoardCrossing x = out("water 3 by 2;board b wide 1 at 1 bears 1;", 0, 1);
        due("rows(0) by what is now", 3, x.rows(0));
        due("landings(0) by what is now", 7, x.landings(0));
        due("singe(0) by what is now", 1, x.singe(0));
    }

    // rows, promises 16 to 18

    private static void rowsOfSteers() {
        terms("16, 17, 18, 19, 20", "A ROW of a BOARD: a steer for each STROKE out from where it is to the far bank, by which it never HISSES (on the far bank: none, no steers).");
        String text = "water 3 by 2;iron 0 1;board b wide 1 at 1;";
        BoardCrossing x = told(text);
        due("2 steers that never HISS, 3 behind each", 6, x.rows(0));
        x.stroke(0, 1, true);
        due("one STROKE from the far bank", 3, x.rows(0));
        x.stroke(0, 0, true);
        due("on the far bank", 1, x.rows(0));
        due("coolest(0, 0)", 0, x.coolest(0, 0));
        lying("no steers", x);
        due("straight(0, 2)", 0, x.straight(0, 2));
        lying("no steers", x);
        due("none, if it always HISSES", 0, told(WALL).rows(0));
        due("an iron beside all ways", 9, told("water 8 by 2;iron 7 1;board b wide 1 at 1;").rows(0));
        due("an iron at the last row", 6, told("water 3 by 2;iron 2 1;board b wide 1 at 1;").rows(0));
        due("held at the outer column against an iron", 3, told("water 3 by 2;iron 0 1;board b wide 1 at 0;").rows(0));
        due("by a current past an iron", 9, told("water 8 by 2;iron 1 1;current 3 at 1 0;board b wide 1 at 1;").rows(0));
        due("by a current against an iron", 6, told("water 8 by 2;iron 4 1;current 3 at 1 0;board b wide 1 at 1;").rows(0));
        due("not by twice as much", 9, told("water 8 by 2;iron 7 1;current 3 at 1 0;board b wide 1 at 1;").rows(0));
    }

    private static void landingColumns() {
        terms("16, 17", "LANDINGS: columns of the far bank that it comes to by ROWS. DRIFT: the one by no steering.");
        due("all eight", 255, told("board b wide 1 at 3;").landings(0));
        due("but the last", 127, told("board b wide 1 at 0;").landings(0));
        due("but the first", 254, told("board b wide 1 at 7;").landings(0));
        due("by a current against which no steer helps", 128, told("water 8 by 1;current 1 at 7 0;board b wide 1 at 7;").landings(0));
        due("the most current", 128, told("water 8 by 1;current 7 at 7 0;board b wide 1 at 7;").landings(0));
        due("one column", 1, told("water 1 by 6;board b wide 1 at 0;").landings(0));
        due("drift by currents", 7, told("water 8 by 2;current 6 at 0 0;current 1 at 6 1;board b wide 1 at 0;").drift(0));
        due("drift by small currents", 3, told("water 8 by 2;current 1 at 0 0;current 2 at 1 1;board b wide 1 at 0;").drift(0));
        due("LANDINGS by small currents", 31, told("water 8 by 2;current 1 at 0 0;current 2 at 1 1;board b wide 1 at 0;").landings(0));
        due("drift past the outer column", 7, told("water 8 by 2;current 7 at 1 0;current 7 at 7 1;board b wide 1 at 1;").drift(0));
    }

    private static void landings() {
        promise(16, "LANDINGS, as bits; NONE if there is none such.");
        BoardCrossing x = told(TWO);
        for (int board : NO_BOARD) {
            due("landings(" + board + ")", -1, x.landings(board));
        }
        due("landings(0) without BOARDS", -1, new BoardCrossing().landings(0));
        due("no LANDINGS", 0, told(WALL).landings(0));
        due("on the far bank", 8, out("water 8 by 1;board b wide 1 at 3;", 0, 1).landings(0));
    }

    private static void drift() {
        promise(17, "DRIFT: the column; NONE if it HISSES, or there is none such.");
        due("column 0", 0, told("board b wide 1 at 0;").drift(0));
        due("column 7", 7, told("board b wide 1 at 7;").drift(0));
        due("HISSES by the first STROKE", -1, told("iron 3 1;board b wide 1 at 3;").drift(0));
        due("HISSES by the last but one", -1, told("iron 3 5;board b wide 1 at 3;").drift(0));
        due("an iron beside it", 3, told("iron 2 1;iron 4 5;board b wide 1 at 3;").drift(0));
        due("an iron in the row it leaves", 2, told("water 8 by 3;current 1 at 0 0;current 1 at 1 1;iron 2 1;board b wide 1 at 0;").drift(0));
        due("on the far bank", 3, out("water 8 by 1;board b wide 1 at 3;", 0, 1).drift(0));
        BoardCrossing x = told(TWO);
        for (int board : NO_BOARD) {
            due("drift(" + board + ")", -1, x.drift(board));
        }
        due("drift(0) without BOARDS", -1, new BoardCrossing().drift(0));
    }

    private static void rows() {
        promise(18, "How many ROWS there are; NONE if there is none such.");
        due("the most", 729, told("board b wide 1 at 3;").rows(0));
        due("the most in one column", 729, told("water 1 by 6;board b wide 1 at 0;").rows(0));
        due("of one STROKE", 3, told("water 1 by 1;board b wide 1 at 0;").rows(0));
        due("none", 0, told(WALL).rows(0));
        BoardCrossing x = told(TWO);
        for (int board : NO_BOARD) {
            due("rows(" + board + ")", -1, x.rows(board));
        }
        due("rows(0) without BOARDS", -1, new BoardCrossing().rows(0));
    }

    // promises 19 and 20

    private static void coolestRow() {
        terms("19", "COOLEST: the ROW by which it is SCORCHED least often, then HEAT on the far bank is least; of like ones the first (STROKE by STROKE: -1, 0, 1).");
        // From column 0 of row 1 the HEAT is 4, as much as it bears; from another one it is SCORCHED.
        BoardCrossing x = told("water 3 by 2;board b wide 1 at 1 bears 4;heat 1+row*(2+column*7);");
        due("not SCORCHED, though hotter", 0, x.coolest(0, 0));
        due("its HEAT", 4, x.coolest(0, 1));
        lying("not SCORCHED", x, -1, -1);
        x = told("water 3 by 2;board b wide 1 at 1 bears 9;heat 6-column*3;");
        due("the least HEAT", 3, x.coolest(0, 1));
        lying("the least HEAT, by the first of three", x, 1, -1);
        x = told("water 8 by 3;board b wide 1 at 3;");
        due("all alike", 3, x.coolest(0, 1));
        lying("the first of all", x, -1, -1, -1);
        x = told("water 3 by 2;iron 0 1;board b wide 1 at 1;");
        due("the first that never HISSES", 2, x.coolest(0, 1));
        lying("the first that never HISSES", x, 0, -1);
        x = told("water 3 by 2;board b wide 1 at 1 bears 5;heat 5-row*(column=2)*5;");
        due("0 behind 5, or 10", 0, x.coolest(0, 0));
        due("5 and 0", 5, x.coolest(0, 1));
        lying("5 and 0", x, 1, -1);
        x = told("water 8 by 2;current 2 at 2 0;board b wide 1 at 2 bears 99;heat 30-(column=5)*30-(column=4)*20+(column=6)*9;");
        due("by steer and current, not by twice as much", 30, x.coolest(0, 1));
        lying("by steer and current", x, 1, -1);
        due("no further by a steer than one column", 5, told("water 4 by 2;board b wide 1 at 0 bears 99;heat 3-column;").coolest(0, 1));
        x = told("water 4 by 3;board b wide 9 at 1 bears 99;load k wide 4;heat load+strokes*2;");
        due("STROKES of the way: 0, 2, 4", 6, x.coolest(0, 1));
        x.stow(0, 0);
        due("its BURDEN, too", 18, x.coolest(0, 1));
    }

    private static void coolest() {
        promise(19, "COOLEST what 0: how often SCORCHED, 1: HEAT, 2: the column; NONE if there is none, or one can't be.");
        BoardCrossing x = told("water 1 by 6;board b wide 1 at 0 bears 0;board c wide 1 at 0 bears 99;heat 99;");
        due("SCORCHED by each STROKE", 6, x.coolest(0, 0));
        due("HEAT", 0, x.coolest(0, 1));
        due("the column", 0, x.coolest(0, 2));
        due("never SCORCHED", 0, x.coolest(1, 0));
        due("HEAT", 99, x.coolest(1, 1));
        due("SCORCHED, asked again", 6, x.coolest(0, 0));
        for (int what : new int[] {-1, 3, LOW, HIGH}) {
            due("coolest(0, " + what + ")", -1, x.coolest(0, what));
        }
        for (int board : NO_BOARD) {
            due("coolest(" + board + ", 0)", -1, x.coolest(board, 0));
        }
        for (int what = 0; what <= 2; what++) {
            due("there is none", -1, told(WALL).coolest(0, what));
            due("without BOARDS", -1, new BoardCrossing().coolest(0, what));
        }
        x = out("water 3 by 2;board b wide 1 at 2 bears 1;heat 2-row;", 0, 2);
        due("on the far bank, SCORCHED before", 1, x.board(0, 3));
        due("on the far bank", 0, x.coolest(0, 0));
        due("HEAT as it is", 1, x.coolest(0, 1));
        due("the column as it is", 2, x.coolest(0, 2));
    }

    private static void coolestLies() {
        promise(19, "Steers lie there then (behind NONE: nothing).");
        BoardCrossing x = told("water 1 by 6;board b wide 1 at 0;");
        for (int what = 0; what <= 2; what++) {
            x.coolest(0, what);
            lying("six steers", x, -1, -1, -1, -1, -1, -1);
        }
        for (int what : new int[] {-1, 3}) {
            x.coolest(0, 0);
            x.coolest(0, what);
            lying("another what", x);
        }
        for (int board : new int[] {-1, 1}) {
            x.coolest(0, 0);
            x.coolest(board, 0);
            lying("no BOARD", x);
        }
        x = told(WALL);
        x.mooring(0);
        due("two lie there", 2, x.about(12));
        x.coolest(0, 0);
        lying("no ROW", x);
    }

    private static void straightestRow() {
        terms("20", "STRAIGHTEST to a LANDING: the ROW with the fewest steers that are not 0; of like ones the first.");
        BoardCrossing x = told("water 8 by 3;board b wide 1 at 3;");
        due("none that is not 0", 0, x.straight(0, 3));
        lying("straight(0, 3)", x, 0, 0, 0);
        due("one, not three", 1, x.straight(0, 4));
        lying("straight(0, 4), the first", x, 0, 0, 1);
        due("one", 1, x.straight(0, 2));
        lying("straight(0, 2), the first", x, -1, 0, 0);
        due("all", 3, x.straight(0, 6));
        lying("straight(0, 6)", x, 1, 1, 1);
        due("all the other way", 3, x.straight(0, 0));
        lying("straight(0, 0)", x, -1, -1, -1);
        x = told("water 8 by 2;current 2 at 2 0;current 1 at 4 1;board b wide 1 at 2;");
        due("by currents", 0, x.straight(0, 5));
        lying("by currents", x, 0, 0);
        due("by currents and a steer", 1, x.straight(0, 6));
        lying("by currents and a steer", x, 0, 1);
        due("past a current", 1, x.straight(0, 3));
        lying("past a current", x, -1, 0);
        due("not by twice as much", -1, x.straight(0, 7));
        x = told("water 3 by 2;iron 1 1;board b wide 1 at 1;");
        due("around an iron", 2, x.straight(0, 1));
        lying("the first around an iron", x, -1, 1);
        x = told("water 1 by 3;board b wide 1 at 0;");
        due("one column", 0, x.straight(0, 0));
        lying("though -1 leads there, too", x, 0, 0, 0);
    }

    private static void straight() {
        promise(20, "STRAIGHTEST to a column: how many steers; NONE if it is no LANDING, or one can't be.");
        BoardCrossing x = told("board b wide 1 at 0;board c wide 1 at 7;");
        due("straight(0, 6)", 6, x.straight(0, 6));
        due("straight(0, 7)", -1, x.straight(0, 7));
        due("straight(0, 0)", 0, x.straight(0, 0));
        due("straight(1, 1)", 6, x.straight(1, 1));
        due("straight(1, 0)", -1, x.straight(1, 0));
        due("straight(1, 7)", 0, x.straight(1, 7));
        for (int column : new int[] {-1, 8, LOW, HIGH}) {
            due("straight(0, " + column + ")", -1, x.straight(0, column));
        }
        for (int board : NO_BOARD) {
            due("straight(" + board + ", 0)", -1, x.straight(board, 0));
        }
        due("a column that this RIVER has not", -1, told("water 3 by 6;board b wide 1 at 2;").straight(0, 3));
        due("no LANDINGS", -1, told(WALL).straight(0, 1));
        x = out("water 3 by 1;board b wide 1 at 1;", 0, 1);
        due("its own column of the far bank", 0, x.straight(0, 1));
        due("another one", -1, x.straight(0, 0));
    }

    private static void straightLies() {
        promise(20, "Steers lie there then (behind NONE: nothing).");
        BoardCrossing x = told("board b wide 1 at 0;");
        x.straight(0, 6);
        lying("six steers", x, 1, 1, 1, 1, 1, 1);
        x.straight(0, 7);
        lying("no LANDING", x);
        x.straight(0, 6);
        x.straight(0, 8);
        lying("no column", x);
        x.straight(0, 6);
        x.straight(1, 6);
        lying("no BOARD", x);
    }

    // promises 21 to 23

    private static void widestLoads() {
        terms("21", "WIDEST for a BOARD at a bank: the LOADS on that bank that lie flat on it together with those that are there, the widest in all; of like ones the least set as bits.");
        BoardCrossing x = told("water 1 by 1;board b wide 10 at 0;board c wide 9 at 0;load y wide 0;load j wide 3;load k wide 7;load l wide 4;load m wide 6;load n wide 11;");
        due("just as wide", 10, x.widest(0, 0));
        due("3 and 7, not 4 and 6, and not the 0", 6, x.widest(0, 1));
        due("of 9", 9, x.widest(1, 0));
        due("3 and 6", 18, x.widest(1, 1));
        x.stow(3, 0);
        due("together with 4", 6, x.widest(0, 0));
        due("6", 16, x.widest(0, 1));
        x.stow(4, 0);
        due("nothing more", 0, x.widest(0, 0));
        due("the least set", 0, x.widest(0, 1));
        x.stroke(0, 0, true);
        due("none on the far bank", 0, x.widest(0, 0));
        x.take(4);
        due("what is on the far bank", 6, x.widest(0, 0));
        due("alone", 16, x.widest(0, 1));
        due("what stayed on the near bank", 7, x.widest(1, 0));
        x = told("board b wide 99 at 0;load c wide 14;load d wide 14;load e wide 14;load f wide 14;load g wide 14;load h wide 14;load i wide 15;");
        due("all seven", 127, x.widest(0, 1));
        due("all seven", 99, x.widest(0, 0));
        due("too wide by one", 2, told("board b wide 9 at 0;load k wide 10;load l wide 9;").widest(0, 1));
        due("1 on 1", 1, told("board b wide 1 at 0;load k wide 1;").widest(0, 1));
    }

    private static void widest() {
        promise(21, "WIDEST what 0: how wide these are, 1: which, as bits; NONE if it is at no bank, or one can't be.");
        BoardCrossing x = told(TWO);
        for (int what : new int[] {-1, 2, LOW, HIGH}) {
            due("widest(0, " + what + ")", -1, x.widest(0, what));
        }
        for (int board : NO_BOARD) {
            due("widest(" + board + ", 0)", -1, x.widest(board, 0));
            due("widest(" + board + ", 1)", -1, x.widest(board, 1));
        }
        due("without LOADS", 0, told("board b wide 9 at 0;").widest(0, 1));
        for (int row = 0; row <= 3; row++) {
            boolean bank = row == 0 || row == 3;
            BoardCrossing y = out("water 1 by 3;board b wide 9 at 0;load k wide 2;", 0, row);
            due("widest(0, 0) in row " + row, bank ? row == 0 ? 2 : 0 : -1, y.widest(0, 0));
            due("widest(0, 1) in row " + row, bank ? row == 0 ? 1 : 0 : -1, y.widest(0, 1));
        }
    }

    private static void tripsOfABoard() {
        terms("22", "TRIPS of a BOARD: the fewest times it must cross with LOADS, so that all LOADS of the near bank are brought over (each time as many as lie flat on it, nothing else on it); of like ones the first (LOAD by LOAD: its trip, numbered as they come in that row).");
        BoardCrossing x = told("board b wide 10 at 0;load k wide 5;load l wide 5;load m wide 6;");
        due("5 and 5 lie flat", 2, x.trips(0));
        lying("5 and 5, 6", x, 0, 0, 1);
        x = told("board b wide 9 at 0;load k wide 5;load l wide 5;load m wide 4;");
        due("5 and 5 do not", 2, x.trips(0));
        lying("the first of like ones", x, 0, 1, 0);
        x = told("board b wide 10 at 0;load k wide 2;load l wide 3;load m wide 8;load n wide 7;");
        due("not as they come", 2, x.trips(0));
        lying("2 and 8, 3 and 7", x, 0, 1, 0, 1);
        x = told("board b wide 0 at 0;load k wide 0;load l wide 0;");
        due("LOADS of 0 cross, too", 1, x.trips(0));
        lying("both at once", x, 0, 0);
        x = told("board b wide 9 at 0;load c wide 5;load d wide 5;load e wide 5;load f wide 5;load g wide 5;load h wide 5;load i wide 9;");
        due("each by itself", 7, x.trips(0));
        lying("each by itself", x, 0, 1, 2, 3, 4, 5, 6);
        x = told("water 1 by 2;board b wide 9 at 0;load k wide 9;load l wide 9;");
        x.stow(0, 0);
        due("nothing else on it", 1, x.trips(0));
        lying("the other one", x, -1, 0);
        due("no LOADS at all", 0, told("board b wide 9 at 0;").trips(0));
    }

    private static void trips() {
        promise(22, "TRIPS: how many; NONE if a LOAD is too wide, or there is none such.");
        BoardCrossing x = told("board b wide 9 at 0;board c wide 10 at 0;load k wide 1;load l wide 10;");
        due("10 on 9", -1, x.trips(0));
        due("10 on 10", 2, x.trips(1));
        for (int board : NO_BOARD) {
            due("trips(" + board + ")", -1, x.trips(board));
        }
        due("trips(0) without BOARDS", -1, new BoardCrossing().trips(0));
        due("1 on 0", -1, told("board b wide 0 at 0;load k wide 1;").trips(0));
        x.stow(1, 1);
        due("it is on the near bank no more", 1, x.trips(0));
    }

    private static void tripsLie() {
        promise(22, "The trip of each LOAD lies there then (-1: not on the near bank; behind NONE: nothing).");
        BoardCrossing x = told("water 1 by 1;board b wide 9 at 0;board c wide 99 at 0;load j wide 9;load k wide 9;load l wide 99;load m wide 1;");
        x.trips(1);
        lying("all", x, 0, 0, 1, 0);
        x.trips(0);
        lying("too wide", x);
        x.trips(1);
        x.trips(2);
        lying("no BOARD", x);
        x.stow(0, 0);
        x.stroke(0, 0, true);
        x.take(0);
        x.stow(2, 1);
        due("two on the near bank", 2, x.trips(0));
        lying("one on the far bank, one on a BOARD", x, -1, 0, -1, 1);
        x = told("board b wide 9 at 0;load j wide 9;");
        x.stow(0, 0);
        due("none on the near bank", 0, x.trips(0));
        lying("none on the near bank", x, -1);
    }

    private static void stowingOfAll() {
        terms("23", "STOWING: each LOAD of the near bank on a BOARD at the near bank at once, as they lie flat: the fewest BOARDS that get one; of like ones the first (LOAD by LOAD: the least BOARD).");
        BoardCrossing x = told("water 1 by 1;board a wide 5 at 0;board b wide 9 at 0;board c wide 9 at 0;load j wide 3;load k wide 4;load l wide 2;");
        due("trips(1)", 1, x.trips(1));
        due("one gets all", 1, x.stowing());
        lying("the first that can", x, 1, 1, 1);
        x.stroke(1, 0, true);
        due("one at the far bank", 1, x.stowing());
        lying("the other one", x, 2, 2, 2);
        x.stroke(2, 0, true);
        due("both at the far bank", -1, x.stowing());
        x = told("board a wide 5 at 0;board b wide 5 at 0;load j wide 3;load k wide 4;load l wide 2;");
        due("3 and 2, 4", 2, x.stowing());
        lying("3 and 2, 4", x, 0, 1, 0);
        x = told("board a wide 6 at 0;board b wide 6 at 0;board c wide 6 at 0;load j wide 3;load k wide 3;load l wide 3;");
        due("two of three", 2, x.stowing());
        lying("the first of like ones", x, 0, 0, 1);
        x = told("board a wide 9 at 0;board b wide 9 at 0;board c wide 9 at 0;board d wide 9 at 0;load j wide 9;load k wide 9;load l wide 9;load m wide 9;");
        due("all four", 4, x.stowing());
        lying("all four", x, 0, 1, 2, 3);
        x = told("board a wide 0 at 0;load j wide 0;");
        due("of 0 on 0", 1, x.stowing());
        x = told("board a wide 9 at 0;board b wide 9 at 0;load j wide 9;load k wide 1;load l wide 0;");
        x.stow(0, 0);
        due("what is on it counts", 1, x.stowing());
        lying("what is on it counts", x, -1, 1, 1);
        x.stow(1, 1);
        due("0 lies flat on a full one", 1, x.stowing());
        lying("0 lies flat on a full one", x, -1, -1, 0);
    }

    private static void stowing() {
        promise(23, "STOWING: how many; NONE if not all can be.");
        due("no LOADS, no BOARDS", 0, new BoardCrossing().stowing());
        due("no LOADS", 0, told("board b wide 0 at 0;").stowing());
        due("no BOARDS", -1, told("load k wide 0;").stowing());
        due("1 on 0", -1, told("board b wide 0 at 0;load k wide 1;").stowing());
        due("10 on 9", -1, told("board b wide 9 at 0;load j wide 1;load k wide 10;").stowing());
        due("10 on 9, together", -1, told("board b wide 9 at 0;load j wide 5;load k wide 5;").stowing());
        due("five of 9 on four", -1, told("board a wide 9 at 0;board b wide 9 at 0;board c wide 9 at 0;board d wide 9 at 0;"
            + "load j wide 9;load k wide 9;load l wide 9;load m wide 9;load n wide 9;").stowing());
        due("the BOARD is in the river", -1, out("board b wide 9 at 0;load j wide 1;", 0, 1).stowing());
        BoardCrossing x = told("water 1 by 1;board b wide 9 at 0;load j wide 1;");
        x.stow(0, 0);
        x.stroke(0, 0, true);
        due("no LOADS on the near bank", 0, x.stowing());
    }

    private static void stowingLies() {
        promise(23, "The BOARD of each LOAD lies there then (-1: not on the near bank; behind NONE: nothing).");
        BoardCrossing x = told("water 1 by 1;board a wide 9 at 0;board b wide 9 at 0;load j wide 9;load k wide 9;load l wide 9;");
        x.trips(0);
        x.stowing();
        lying("not all can be", x);
        x.stow(0, 0);
        x.stroke(0, 0, true);
        x.take(0);
        x.stow(1, 1);
        x.stowing();
        lying("not all can be", x);
        x.stroke(0, 0, false);
        x.stowing();
        lying("one on the far bank, one on a BOARD", x, -1, -1, 0);
        x.stow(2, 0);
        x.stowing();
        lying("none on the near bank", x, -1, -1, -1);
    }

    // promises 24 to 26

    private static void meetOfTwo() {
        terms("24", "MEET of two BOARDS in one row: the fewest STROKES out of both, steered as is wished (none HISSES), behind which they are in columns side by side of one row (it may be a bank).");
        due("at the near bank", 0, told("board b wide 1 at 3;board c wide 1 at 4;").meet(0, 1));
        due("at the near bank, turned", 0, told("board b wide 1 at 4;board c wide 1 at 3;").meet(0, 1));
        due("in one column", 1, told("board b wide 1 at 3;board c wide 1 at 3;").meet(0, 1));
        due("two columns apart, at the far bank", 1, told("water 8 by 1;board b wide 1 at 3;board c wide 1 at 5;").meet(0, 1));
        due("seven columns apart, at the far bank", 3, told("water 8 by 3;board b wide 1 at 0;board c wide 1 at 7;").meet(0, 1));
        due("seven columns apart, a STROKE too few", -1, told("water 8 by 2;board b wide 1 at 0;board c wide 1 at 7;").meet(0, 1));
        due("the first and the last column are not side by side", 2, told("water 5 by 6;board b wide 1 at 0;board c wide 1 at 4;").meet(0, 1));
        due("irons between", 2, told("water 4 by 3;iron 1 1;iron 2 1;board b wide 1 at 0;board c wide 1 at 3;").meet(0, 1));
        due("one HISSES anyway", -1, told("water 8 by 2;iron 6 1;iron 7 1;board b wide 1 at 5;board c wide 1 at 7;").meet(0, 1));
        BoardCrossing x = told("water 3 by 1;board b wide 1 at 0;board c wide 1 at 1;board d wide 1 at 1;");
        for (int board = 0; board < 3; board++) {
            x.stroke(board, 0, true);
        }
        due("both on the far bank", 0, x.meet(0, 1));
        due("both in one column of the far bank", -1, x.meet(1, 2));
        // From row 1 on, where columns 0 and 7 are led to 3 and 7: side by side behind two more.
        x = told("water 8 by 4;current 3 at 0 1;iron 2 1;iron 5 2;board b wide 1 at 0;board c wide 1 at 7;");
        x.stroke(0, 0, true);
        x.stroke(1, 0, true);
        due("from row 1", 2, x.meet(0, 1));
        x = told("water 8 by 3;current 7 at 0 2;board b wide 1 at 0;board c wide 1 at 7;");
        x.stroke(0, 0, true);
        x.stroke(1, 0, true);
        due("by a current of row 2", 2, x.meet(0, 1));
        due("by a current of row 2, turned", 2, x.meet(1, 0));
    }

    private static void meet() {
        promise(24, "MEET (0: they are side by side); NONE if they never do, are in two rows, both are one, or one can't be.");
        BoardCrossing x = told("water 8 by 2;board b wide 1 at 0;board c wide 1 at 1;board d wide 1 at 7;");
        due("side by side", 0, x.meet(0, 1));
        due("never", -1, x.meet(0, 2));
        due("both are one", -1, x.meet(0, 0));
        for (int other : new int[] {-1, 3, 4, LOW, HIGH}) {
            due("meet(0, " + other + ")", -1, x.meet(0, other));
            due("meet(" + other + ", 0)", -1, x.meet(other, 0));
            due("meet(" + other + ", " + other + ")", -1, x.meet(other, other));
        }
        x.stroke(0, 0, true);
        due("in two rows", -1, x.meet(0, 1));
        due("in two rows, turned", -1, x.meet(1, 0));
        due("one column wide", -1, told("water 1 by 6;board b wide 1 at 0;board c wide 1 at 0;").meet(0, 1));
        due("without BOARDS", -1, new BoardCrossing().meet(0, 1));
    }

    private static void mooringOfAll() {
        terms("25", "MOORING: BOARDS at the near bank to unlike LANDINGS of theirs, as many as can be, then the least columns between where they are and land, together; of like ones the first (BOARD by BOARD: the least column, none behind all).");
        BoardCrossing x = told("water 1 by 2;board a wide 1 at 0;board b wide 1 at 0;board c wide 1 at 0;board d wide 1 at 0;");
        due("one LANDING for four", 1, x.mooring(0));
        lying("none behind all", x, 0, -1, -1, -1);
        x = told("water 2 by 1;board a wide 1 at 0;board b wide 1 at 0;board c wide 1 at 0;");
        due("two LANDINGS for three", 2, x.mooring(0));
        due("columns between", 1, x.mooring(1));
        lying("the least column first", x, 0, 1, -1);
        x = told("water 3 by 1;board a wide 1 at 1;board b wide 1 at 1;board c wide 1 at 1;");
        due("as many as can be", 3, x.mooring(0));
        due("columns between", 2, x.mooring(1));
        lying("each its own", x, 0, 1, 2);
        x = told("water 3 by 1;board a wide 1 at 2;board b wide 1 at 1;");
        due("the least between", 0, x.mooring(1));
        lying("not the least column", x, 2, 1);
        x = told("water 3 by 2;board a wide 1 at 0;board b wide 1 at 0;board c wide 1 at 0;");
        x.stroke(0, 0, true);
        due("not in the river", 2, x.mooring(0));
        lying("not in the river", x, -1, 0, 1);
        x.stroke(0, 0, true);
        due("not on the far bank", 2, x.mooring(0));
        lying("not on the far bank", x, -1, 0, 1);
        // A BOARD at 0 lands at 6 or 7, one at 1 at 7 alone: as many as can be go ahead of the least between.
        x = told("water 8 by 1;current 7 at 0 0;current 7 at 1 0;board a wide 1 at 0;board b wide 1 at 1;");
        due("both", 2, x.mooring(0));
        due("far off", 12, x.mooring(1));
        lying("far off", x, 6, 7);
    }

    private static void mooring() {
        promise(25, "MOORING what 0: how many, 1: columns between together; NONE for another what.");
        BoardCrossing x = told("water 8 by 1;current 7 at 0 0;board a wide 1 at 0;board b wide 1 at 0;");
        due("mooring(0)", 2, x.mooring(0));
        due("mooring(1)", 13, x.mooring(1));
        for (int what : new int[] {-1, 2, LOW, HIGH}) {
            due("mooring(" + what + ")", -1, x.mooring(what));
        }
        due("mooring(0) without BOARDS", 0, new BoardCrossing().mooring(0));
        due("mooring(1) without BOARDS", 0, new BoardCrossing().mooring(1));
        due("mooring(2) without BOARDS", -1, new BoardCrossing().mooring(2));
        due("mooring(0) without LANDINGS", 0, told(WALL).mooring(0));
        due("mooring(1) without LANDINGS", 0, told(WALL).mooring(1));
    }

    private static void mooringLies() {
        promise(25, "Where each BOARD lands lies there then (-1: nowhere).");
        BoardCrossing x = told(WALL);
        x.mooring(0);
        lying("nowhere", x, -1, -1);
        x = told("water 1 by 2;board a wide 1 at 0;board b wide 1 at 0;");
        x.mooring(1);
        lying("mooring(1)", x, 0, -1);
        x = told("water 1 by 2;board a wide 1 at 0;");
        x.mooring(2);
        lying("another what", x);
        x = new BoardCrossing();
        x.mooring(0);
        lying("without BOARDS", x);
    }

    private static void guestsOfOne() {
        terms("26", "GUESTS: two BOARDS choose a LANDING of their own each; who lands alone there gets 9, both at one get 3 each, less one for each column between where it is and lands; at RESTS neither, the other one's staying so, would do better by another LANDING.");
        due("each at its own", 1, told("board b wide 1 at 2;board c wide 1 at 5;").guests(0, 1));
        // One stays, the other goes one column aside: two ways for each, and it is no better to go to the other side.
        due("both want one", 4, told("board b wide 1 at 3;board c wide 1 at 3;").guests(0, 1));
        due("both want one at the outer column", 2, told("board b wide 1 at 0;board c wide 1 at 0;").guests(0, 1));
        due("one LANDING for both", 1, told("water 1 by 2;board b wide 1 at 0;board c wide 1 at 0;").guests(0, 1));
        due("far off: one gets 3, the other 2", 2, told("water 8 by 1;current 7 at 0 0;board b wide 1 at 0;board c wide 1 at 0;").guests(0, 1));
        BoardCrossing x = told("water 8 by 2;board b wide 1 at 3;board c wide 1 at 3;");
        x.stroke(0, 1, true);
        x.stroke(0, 0, true);
        due("one is there already", 1, x.guests(1, 0));
        lying("the other one beside it", x, 3, 4);
        x = told("water 8 by 1;current 7 at 1 0;current 1 at 7 0;board b wide 1 at 1;board c wide 1 at 7;");
        due("each has one LANDING, the same", 1, x.guests(0, 1));
        lying("each has one LANDING, the same", x, 7, 7);
    }

    private static void guests() {
        promise(26, "GUESTS: how many RESTS; NONE if both are one, one has no LANDING, or can't be.");
        BoardCrossing x = told("water 8 by 2;board b wide 1 at 1;board c wide 1 at 3;");
        due("both are one", -1, x.guests(1, 1));
        for (int other : NO_BOARD) {
            due("guests(0, " + other + ")", -1, x.guests(0, other));
            due("guests(" + other + ", 0)", -1, x.guests(other, 0));
        }
        x = told("water 4 by 2;iron 0 1;iron 1 1;board b wide 1 at 0;board c wide 1 at 3;");
        due("the first has no LANDING", -1, x.guests(0, 1));
        due("the other one has none", -1, x.guests(1, 0));
        due("neither has one", -1, told(WALL).guests(0, 1));
        due("without BOARDS", -1, new BoardCrossing().guests(0, 1));
    }

    private static void guestsLie() {
        promise(26, "The columns of the first of these lie there then (of like ones the least numbers; the first one's, the other one's; behind 0, NONE: nothing).");
        BoardCrossing x = told("board b wide 1 at 3;board c wide 1 at 3;board d wide 1 at 5;");
        x.guests(0, 1);
        lying("the least numbers", x, 2, 3);
        x.guests(0, 2);
        lying("the first one's, the other one's", x, 3, 5);
        x.guests(2, 0);
        lying("turned", x, 5, 3);
        x.guests(0, 0);
        lying("both are one", x);
        for (int other : new int[] {-1, 3}) {
            x.guests(0, 2);
            x.guests(0, other);
            lying("no BOARD", x);
        }
        x = told(WALL);
        x.mooring(0);
        x.guests(0, 1);
        lying("no LANDING", x);
    }

    // promises 27 and 28

    private static void singeOfABoard() {
        terms("27", "SINGE: behind how many STROKES out, unsteered, a BOARD is SCORCHED first.");
        BoardCrossing x = told("board a wide 1 at 0 bears 0;board b wide 1 at 0 bears 5;board c wide 1 at 0 bears 6;board d wide 1 at 0 bears 1;");
        due("by the first", 1, x.singe(0));
        due("by the last", 6, x.singe(1));
        due("as much as it bears", -1, x.singe(2));
        due("first", 2, x.singe(3));
        x = told("board b wide 1 at 0 bears 98;board c wide 1 at 0 bears 99;heat 60;");
        due("99 of 98", 2, x.singe(0));
        due("99 of 99", -1, x.singe(1));
        x = told("water 8 by 3;current 7 at 0 0;board b wide 1 at 0 bears 6;heat column*(strokes>0)*(row>0);");
        due("by the column that it drifts to", 2, x.singe(0));
        int[][] want = {{0, 2}, {1, 3}, {3, 3}, {4, -1}};
        for (int[] w : want) {
            x = told("water 8 by 3;current 1 at 0 0;current 2 at 1 1;board b wide 1 at 0 bears " + w[0] + ";heat column;");
            due("0, 1, 4 of " + w[0], w[1], x.singe(0));
        }
        x = out("water 8 by 3;board b wide 1 at 0 bears 2;", 0, 1);
        due("by its HEAT now", 2, x.singe(0));
        x.cool(0, 1);
        due("cooled", -1, x.singe(0));
    }

    private static void singe() {
        promise(27, "SINGE (1 ..); NONE if never on the way, it HISSES by then, or there is none such.");
        due("never", -1, told("board b wide 1 at 0;").singe(0));
        due("on the far bank", -1, out("water 1 by 1;board b wide 1 at 0 bears 1;", 0, 1).singe(0));
        due("it HISSES before", -1, told("iron 0 1;board b wide 1 at 0 bears 1;").singe(0));
        due("it HISSES then", -1, told("iron 0 2;board b wide 1 at 0 bears 1;").singe(0));
        due("it HISSES later", 2, told("iron 0 3;board b wide 1 at 0 bears 1;").singe(0));
        BoardCrossing x = told(TWO);
        for (int board : NO_BOARD) {
            due("singe(" + board + ")", -1, x.singe(board));
        }
        due("without BOARDS", -1, new BoardCrossing().singe(0));
    }

    private static void oddsAre(String call, BoardCrossing x, int column, int upper, int lower) {
        due(call + ", upper part of column " + column, upper, x.odds(0, column, 0));
        due(call + ", lower part of column " + column, lower, x.odds(0, column, 1));
    }

    private static void oddsOfALanding() {
        terms("28", "ODDS of a landing: that an unsteered BOARD lands there, floods coming to each STROKE by itself (who HISSES lands nowhere).");
        String two = "water 8 by 2;current 1 at 0 0;current 1 at 1 1;current 2 at 2 1;board b wide 1 at 0;flood 30;";
        BoardCrossing x = told(two);
        oddsAre("7 of 10 twice", x, 2, 49, 100);
        oddsAre("7 of 10, 3 of 10", x, 3, 21, 100);
        oddsAre("3 of 10, 7 of 10", x, 4, 21, 100);
        oddsAre("3 of 10 twice", x, 6, 9, 100);
        oddsAre("no way", x, 5, 0, 1);
        x = told("water 3 by 2;iron 2 1;current 1 at 0 0;board b wide 1 at 0;flood 30;");
        oddsAre("it does not HISS", x, 1, 7, 10);
        oddsAre("it HISSES", x, 2, 0, 1);
        oddsAre("it HISSES", x, 0, 0, 1);
        x = told("water 3 by 3;iron 1 2;current 0 at 0 0;board b wide 1 at 1;flood 30;");
        oddsAre("it always HISSES", x, 1, 0, 1);
        x = told("water 2 by 1;current 1 at 0 0;board b wide 1 at 0;flood 30;");
        oddsAre("both to the outer column", x, 1, 1, 1);
    }

    private static void odds() {
        promise(28, "ODDS of a column: the upper part (0), the lower part (1), in lowest terms (0 of 1); NONE if more than 4 STROKES are left, or one can't be.");
        int[][] want = {{0, 1, 1, 0, 1}, {1, 99, 100, 1, 100}, {25, 3, 4, 1, 4}, {50, 1, 2, 1, 2}, {99, 1, 100, 99, 100}, {100, 0, 1, 1, 1}};
        for (int[] w : want) {
            BoardCrossing x = told("water 3 by 1;current 1 at 0 0;board b wide 1 at 0;flood " + w[0] + ";");
            oddsAre("flood " + w[0], x, 1, w[1], w[2]);
            oddsAre("flood " + w[0], x, 2, w[3], w[4]);
            oddsAre("flood " + w[0], x, 0, 0, 1);
        }
        String four = "water 8 by 4;current 1 at 0 0;current 1 at 1 1;current 1 at 2 2;current 1 at 3 3;iron 2 1;iron 3 2;iron 4 3;board b wide 1 at 0;";
        oddsAre("99 of 100, four times", told(four + "flood 1;"), 4, 96059601, 100000000);
        oddsAre("1 of 100 behind three", told(four + "flood 1;"), 5, 970299, 100000000);
        for (int strokes = 1; strokes <= 6; strokes++) {
            BoardCrossing x = told("water 3 by " + strokes + ";board b wide 1 at 2;flood 5;");
            for (int left = strokes; left > 0; left--) {
                oddsAre(left + " left", x, 2, left > 4 ? -1 : 1, left > 4 ? -1 : 1);
                x.stroke(0, 0, true);
            }
            oddsAre("on the far bank", x, 2, 1, 1);
            oddsAre("elsewhere on the far bank", x, 1, 0, 1);
        }
        BoardCrossing x = told("water 3 by 1;board b wide 1 at 2;");
        for (int column : new int[] {-1, 3, 7, 8, LOW, HIGH}) {
            oddsAre("no column", x, column, -1, -1);
        }
        for (int part : new int[] {-1, 2, LOW, HIGH}) {
            due("odds(0, 2, " + part + ")", -1, x.odds(0, 2, part));
        }
        for (int board : new int[] {-1, 1, 4, LOW, HIGH}) {
            due("odds(" + board + ", 2, 0)", -1, x.odds(board, 2, 0));
        }
        due("without BOARDS", -1, told("water 3 by 1;").odds(0, 0, 0));
    }

    // promises 29 to 34

    private static final String SEVEN = "water 1 by 1;board b wide 99 at 0;load c wide 14;load d wide 14;load e wide 14;load f wide 14;load g wide 14;load h wide 14;load i wide 15;";

    private static BoardCrossing allOver() {
        BoardCrossing x = told(SEVEN);
        for (int load = 0; load < 7; load++) {
            x.stow(load, 0);
        }
        x.stroke(0, 0, true);
        due("over() while they are on the BOARD", 0, x.over());
        due("left() while they are on the BOARD", 99, x.left());
        for (int load = 0; load < 7; load++) {
            x.take(load);
        }
        return x;
    }

    private static void over() {
        promise(29, "LOADS on the far bank, as bits.");
        due("none at first", 0, told(SEVEN).over());
        due("no LOADS", 0, new BoardCrossing().over());
        BoardCrossing x = allOver();
        due("all", 127, x.over());
        x.stow(0, 0);
        due("without the first", 126, x.over());
        x.take(0);
        x.stow(6, 0);
        due("without the last", 63, x.over());
    }

    private static void left() {
        promise(30, "How wide all LOADS are that are not on the far bank, together.");
        due("no LOADS", 0, new BoardCrossing().left());
        due("all", 99, told(SEVEN).left());
        BoardCrossing x = allOver();
        due("none", 0, x.left());
        x.stow(6, 0);
        due("on a BOARD", 15, x.left());
        due("seven of 99", 693, told("load a wide 99;load b wide 99;load c wide 99;load d wide 99;load e wide 99;load f wide 99;load g wide 99;").left());
        due("of 0", 0, told("load a wide 0;").left());
    }

    private static void pulled() {
        promise(31, "BOARDS that some current leads from their CELL, as bits.");
        due("no BOARDS", 0, told("current 1 at 0 0;").pulled());
        String four = "board a wide 1 at 0;board b wide 1 at 1;board c wide 1 at 1;board d wide 1 at 3;";
        due("none told", 0, told(four).pulled());
        due("of 0", 0, told(four + "current 0 at 0 0;current 0 at 1 0;current 0 at 3 0;").pulled());
        due("all", 15, told(four + "current 1 at 0 0;current 7 at 1 0;current 1 at 3 0;").pulled());
        due("two of four", 6, told(four + "current 1 at 1 0;current 1 at 0 1;current 1 at 3 1;").pulled());
        BoardCrossing x = told("water 8 by 2;current 1 at 0 0;current 2 at 1 1;board a wide 1 at 0;");
        due("on the near bank", 1, x.pulled());
        x.stroke(0, 0, true);
        due("in the river", 1, x.pulled());
        x.stroke(0, 0, true);
        due("on the far bank", 0, x.pulled());
    }

    private static void hottest() {
        promise(32, "The BOARD that is hottest by what it bears less HEAT: the least left; of like ones the first; NONE without BOARDS.");
        due("without BOARDS", -1, told("load a wide 1;").hottest());
        due("one", 0, told("board a wide 1 at 0 bears 99;").hottest());
        BoardCrossing x = told("water 1 by 1;board a wide 1 at 0 bears 9;board b wide 1 at 0 bears 8;board c wide 1 at 0 bears 8;board d wide 1 at 0 bears 9;");
        due("of like ones the first", 1, x.hottest());
        x.stroke(2, 0, true);
        due("the least left", 2, x.hottest());
        x.stroke(0, 0, true);
        x.stroke(0, 0, false);
        due("7 and 7", 0, x.hottest());
        x.stroke(3, 0, true);
        x.stroke(3, 0, false);
        x.stroke(3, 0, true);
        due("6 of the last", 3, x.hottest());
        due("nothing left", 1, told("board a wide 1 at 0 bears 1;board b wide 1 at 0 bears 0;").hottest());
    }

    private static void law() {
        promise(33, "How many LOADS of the near bank would lie flat, each by itself, on a BOARD that is n wide (0 .. 99); NONE for another n.");
        String loads = "water 1 by 1;board b wide 99 at 0;load c wide 0;load d wide 1;load e wide 1;load f wide 98;load g wide 99;load h wide 99;load i wide 50;";
        BoardCrossing x = told(loads);
        int[][] want = {{0, 1}, {1, 3}, {49, 3}, {50, 4}, {97, 4}, {98, 5}, {99, 7}, {-1, -1}, {100, -1}, {LOW, -1}, {HIGH, -1}};
        for (int[] w : want) {
            due("law(" + w[0] + ")", w[1], x.law(w[0]));
        }
        x.stow(4, 0);
        due("one on a BOARD", 6, x.law(99));
        x.stroke(0, 0, true);
        x.take(4);
        due("one on the far bank", 6, x.law(99));
        due("no LOADS", 0, new BoardCrossing().law(0));
        due("no LOADS, another n", -1, new BoardCrossing().law(100));
    }

    private static void lies() {
        promise(34, "The i-th number of what lies there; -2 if there is none such.");
        due("a new object", -2, new BoardCrossing().lies(0));
        BoardCrossing x = told(SEVEN.replace("wide 14", "wide 99"));
        x.trips(0);
        for (int i = 0; i < 7; i++) {
            due("lies(" + i + ")", i, x.lies(i));
        }
        for (int i : new int[] {-1, 7, 8, LOW, HIGH}) {
            due("lies(" + i + ")", -2, x.lies(i));
        }
        x.mooring(0);
        due("the one that lies there", 0, x.lies(0));
        due("no second one", -2, x.lies(1));
        x.straight(0, 5);
        due("nothing lies there", -2, x.lies(0));
    }
}
