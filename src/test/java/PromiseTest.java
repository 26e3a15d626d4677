/** Each promise of the document by itself: ordinary calls, the edges that it names, and wrong inputs. */
public final class PromiseTest {
    private static final String RIVER = "water 5 by 3;current 1 at 1 0;current 2 at 2 1;iron 4 2;"
        + "board ann wide 10 at 1 bears 4;board bob wide 6 at 3;"
        + "load a wide 5;load b wide 4;load c wide 6;load d wide 2;heat 1+load/5;flood 30;draw 9;";
    private static final int LOW = Integer.MIN_VALUE;
    private static final int HIGH = Integer.MAX_VALUE;

    private PromiseTest() {
    }

    public static void main(String[] args) {
        newObject();
        tape();
        river();
        faultsOfTokens();
        faultsOfPlaces();
        faultsOfNames();
        faultsOfNumbers();
        faultsOfFormulas();
        formulas();
        boardAndLoad();
        spotAndHotter();
        strokes();
        hissesAndScorches();
        floods();
        stowAndTake();
        cool();
        undoAndRedo();
        landingsDriftRows();
        coolest();
        straight();
        widest();
        trips();
        stowing();
        meet();
        mooring();
        guests();
        singe();
        odds();
        smallQuestions();
        lies();
        seen();
        times();
        sureAndAsk();
        images();
        about();
        Check.finish("PromiseTest");
    }

    private static void due(String call, long want, long got) {
        Check.due(call, want, got);
    }

    private static void due(String call, boolean want, boolean got) {
        Check.due(call, want, got);
    }

    private static BoardCrossing told(String text) {
        return Check.told(text);
    }

    // 1
    private static void newObject() {
        BoardCrossing x = new BoardCrossing();
        int[] want = {0, 0, 8, 6, 0, 0, 0, 0, 0, 0, 0, 0, 0, -1};
        for (int what = 0; what < want.length; what++) {
            due("new about(" + what + ")", want[what], x.about(what));
        }
        due("new fault(0)", 0, x.fault(0));
        due("new fault(1)", -1, x.fault(1));
        due("new undo()", false, x.undo());
        due("new redo()", false, x.redo());
        due("new back(0)", -1, x.back(0));
        due("new board(0, 0)", -1, x.board(0, 0));
        due("new load(0, 0)", -3, x.load(0, 0));
        due("new stowing()", 0, x.stowing());
        due("new mooring(0)", 0, x.mooring(0));
    }

    // 2, 3
    private static void tape() {
        BoardCrossing x = new BoardCrossing();
        for (int n = 1; n <= 80; n++) {
            due("feed " + n, n * 20, x.feed(0x20202020, 0x0a0a0a0a, 0x20202020, 0x20202020, 0x20202020));
        }
        due("feed beyond 1,600", -1, x.feed(1, 2, 3, 4, 5));
        due("the tape", 1600, x.about(10));
        due("end(1601)", -1, x.end(1601));
        due("end(-1)", -1, x.end(-1));
        due("end(LOW)", -1, x.end(LOW));
        due("end(HIGH)", -1, x.end(HIGH));
        due("end(1600)", 1600, x.end(1600));
        due("end(1581)", 1581, x.end(1581));
        due("feed with 19 left", -1, x.feed(0, 0, 0, 0, 0));
        due("end(1580)", 1580, x.end(1580));
        due("feed with 20 left", 1600, x.feed(0x20202020, 0x20202020, 0x20202020, 0x20202020, 0x20202020));
        due("river() of blanks", 0, x.river());
        due("the tape behind river()", 0, x.about(10));
        due("end(0)", 0, x.end(0));
        due("end(1) of none", -1, x.end(1));

        due("feed, the highest byte first", 20, x.feed(0x64726177, 0x20313233, 0x3b000000, 0, 0));
        due("end(9)", 9, x.end(9));
        due("river()", 0, x.river());
        due("draw", 123, x.about(5));
    }

    // 4, 5
    private static void river() {
        BoardCrossing x = told(RIVER);
        x.later(5);
        x.passed(1, 2, true);
        x.image(1);
        x.stroke(0, 0, true);
        x.mooring(0);
        due("a fault", -1, Check.tell(x, "flood 5;flood"));
        due("fault(0)", 2, x.fault(0));
        due("fault(1)", 8, x.fault(1));
        due("fault(2)", -1, x.fault(2));
        due("fault(-1)", -1, x.fault(-1));
        due("a fault leaves acts", 1, x.about(6));
        due("a fault leaves what is seen", 1, x.about(8));
        due("a fault leaves what lies there", 2, x.about(12));
        due("a fault leaves where boards are", 3, x.board(0, 0));
        due("a fault leaves boxes", 0, x.back(1));
        x.stroke(0, 0, true);
        x.stroke(0, 0, true);
        x.undo();
        x.mooring(0);
        due("another river", 1, Check.tell(x, "board z wide 3 at 7;draw 4;load q wide 1;"));
        due("fault(0) behind it", 0, x.fault(0));
        due("fault(1) behind it", -1, x.fault(1));
        int[] want = {1, 1, 8, 6, 0, 4, 0, 0, 0, 5, 0, 0, 0};
        for (int what = 0; what < want.length; what++) {
            due("about(" + what + ") behind another river", want[what], x.about(what));
        }
        for (int box = 0; box < 3; box++) {
            due("boxes are empty", -1, x.back(box));
        }
        due("strokes from 0", 0, x.board(0, 4));
        due("the empty text", 0, x.river());
        due("its boards", 0, x.about(0));
        Check.dueRiver("", 0);
        Check.dueRiver(" \n \n", 0);
        Check.dueRiver("board a wide 1 at 0;board b wide 1 at 0;board c wide 1 at 0;board d wide 1 at 0;", 4);
    }

    private static void faultsOfTokens() {
        Check.dueFault("A", 1, 0);
        Check.dueFault("flood 1;\t", 1, 8);
        Check.dueFault("flood 1;\0", 1, 8);
        Check.dueFault("flood 1 \u00e9", 1, 8);
        Check.dueFault("board abcdefghi wide 1 at 1;", 1, 6);
        Check.dueRiver("board abcdefgh wide 1 at 1;", 1);
        Check.dueFault("heat 12345;", 1, 5);
        Check.dueRiver("heat 9999;", 0);
        Check.dueRiver("draw 0007;", 0);
        Check.dueFault("draw 00007;", 1, 5);
        Check.dueFault("water 3by 3;", 1, 6);
        Check.dueFault("water 9by 3;", 1, 6);
        Check.dueRiver("water 3\nby3;", 0);
        Check.dueRiver("water3 by 3;board a wide1 at0;", 1);
        Check.dueFault("heat not1;heat1;", 2, 10);
    }

    private static void faultsOfPlaces() {
        Check.dueFault("flood 1", 2, 7);
        Check.dueFault("flood 1  ", 2, 9);
        Check.dueFault("flood", 2, 5);
        Check.dueFault("flood ;", 2, 6);
        Check.dueFault(";", 2, 0);
        Check.dueFault("7", 2, 0);
        Check.dueFault("river", 2, 0);
        Check.dueFault("wide 1;", 2, 0);
        Check.dueFault("flood 1 1;", 2, 8);
        Check.dueFault("water 3 by 3;water 3 by 3;", 2, 13);
        Check.dueFault("draw 1;water 3 by 3;", 2, 7);
        Check.dueFault("draw 1;draw 1;", 2, 7);
        Check.dueFault("flood 1;draw 1;flood 1;", 2, 15);
        Check.dueFault("heat 1;heat 1;", 2, 7);
        Check.dueFault("iron 1 1 1;", 2, 9);
        Check.dueFault("current 1 at 1;", 2, 14);
        StringBuilder currents = new StringBuilder();
        for (int i = 0; i < 16; i++) {
            currents.append("current 0 at ").append(i % 8).append(' ').append(i / 8).append(';');
        }
        Check.dueRiver(currents.toString(), 0);
        Check.dueFault(currents + "current 0 at 0 2;", 2, currents.length());
        StringBuilder irons = new StringBuilder();
        for (int i = 0; i < 6; i++) {
            irons.append("iron ").append(i).append(" 1;");
        }
        Check.dueRiver(irons.toString(), 0);
        Check.dueFault(irons + "iron 7 2;", 2, irons.length());
        StringBuilder boards = new StringBuilder();
        StringBuilder loads = new StringBuilder();
        for (int i = 0; i < 7; i++) {
            boards.append(i < 4 ? "board " + (char) ('a' + i) + " wide 0 at 7;" : "");
            loads.append("load ").append((char) ('a' + i)).append(" wide 99;");
        }
        Check.dueRiver(boards.toString() + loads, 4);
        Check.dueFault(boards + "board", 2, boards.length());
        Check.dueFault(loads + "load", 2, loads.length());
    }

    private static void faultsOfNames() {
        for (String word : new String[] {"water", "by", "current", "at", "iron", "board", "wide", "bears", "load", "heat", "flood",
            "draw", "or", "and", "not", "row", "column", "strokes", "hot"}) {
            Check.dueFault("board " + word + " wide 1 at 1;", 2, 6);
            Check.dueFault("load " + word + " wide 1;", 2, 5);
        }
        Check.dueRiver("board name wide 1 at 1;load name wide 1;board stroke wide 2 at 2;", 2);
        Check.dueFault("board 5 wide 1 at 1;", 2, 6);
        Check.dueFault("board a wide 1 at 1;load a wide 1;board b wide 1 at 1;board a", 3, 60);
        Check.dueFault("load a wide 1;load aa wide 1;load aa wide 1;", 3, 34);
        Check.dueFault("current 0 at 1 1;current 3 at 1 1;", 3, 32);
        Check.dueRiver("current 0 at 1 1;iron 1 1;current 0 at 1 2;current 0 at 2 1;iron 1 2;iron 2 1;", 0);
        Check.dueFault("iron 1 2;iron 2 1;iron 1 2;", 3, 25);
    }

    private static void faultsOfNumbers() {
        Check.dueFault("water 0 by 1;", 4, 6);
        Check.dueFault("water 9 by 1;", 4, 6);
        Check.dueFault("water 8 by 0;", 4, 11);
        Check.dueFault("water 8 by 7;", 4, 11);
        Check.dueRiver("water 8 by 6;", 0);
        Check.dueRiver("water 1 by 1;", 0);
        Check.dueFault("water 9$", 4, 6);
        Check.dueFault("current 8 at 0 0;", 4, 8);
        Check.dueRiver("current 7 at 7 5;", 0);
        Check.dueFault("current 7 at 7 6;", 4, 15);
        Check.dueFault("water 3 by 2;current 1 at 3 0;", 4, 26);
        Check.dueFault("water 3 by 2;current 1 at 2 2;", 4, 28);
        Check.dueFault("iron 0 0;", 4, 7);
        Check.dueFault("iron 0 6;", 4, 7);
        Check.dueFault("iron 8 0;", 4, 5);
        Check.dueRiver("iron 0 5;iron 7 1;", 0);
        Check.dueFault("water 8 by 1;iron 0 1;", 4, 20);
        Check.dueFault("water 8 by 1;iron 0 0;", 4, 20);
        Check.dueRiver("board a wide 99 at 7 bears 99;board b wide 0 at 0 bears 0;", 2);
        Check.dueFault("board a wide 100 at 7;", 4, 13);
        Check.dueFault("board a wide 99 at 8;", 4, 19);
        Check.dueFault("board a wide 99 at 7 bears 100;", 4, 27);
        Check.dueFault("water 2 by 2;board a wide 99 at 2;", 4, 32);
        Check.dueFault("load a wide 100;", 4, 12);
        Check.dueRiver("flood 100;draw 999;", 0);
        Check.dueFault("flood 101;", 4, 6);
        Check.dueFault("draw 1000;", 4, 5);
    }

    private static void faultsOfFormulas() {
        Check.dueFault("heat ;", 2, 5);
        Check.dueFault("heat by;", 2, 5);
        Check.dueFault("heat name;", 2, 5);
        Check.dueFault("heat 1 2;", 2, 7);
        Check.dueFault("heat 1+;", 2, 7);
        Check.dueFault("heat -1;", 2, 5);
        Check.dueFault("heat 1=2=3;", 2, 8);
        Check.dueRiver("heat (1=2)=3;", 0);
        Check.dueFault("heat 1+not 1;", 2, 7);
        Check.dueRiver("heat 1+(not 1);", 0);
        Check.dueFault("heat (1;", 2, 7);
        Check.dueFault("heat 1);", 2, 6);
        Check.dueFault("heat ();", 2, 6);
        Check.dueFault("heat 1 or;", 2, 9);
        Check.dueFault("heat 1 and", 2, 10);
        Check.dueFault("heat 1 and ;", 2, 11);
        Check.dueFault("heat 1 or ;", 2, 10);
        Check.dueFault("heat not ;", 2, 9);
        Check.dueFault("heat 1<;", 2, 7);
        Check.dueFault("heat 1*;", 2, 7);
        Check.dueFault("heat (1+);", 2, 8);
        Check.dueFault("heat (1 or ) ;", 2, 11);
        Check.dueFault("heat (1$", 1, 7);
        Check.dueRiver("heat (((((((1)))))));", 0);
        Check.dueFault("heat ((((((((1))))))));", 2, 12);
        Check.dueRiver("heat not not not not not not not 1;", 0);
        Check.dueFault("heat not not not not not not not not 1;", 2, 33);
        Check.dueRiver("heat not (not (not (not 1)));", 0);
        Check.dueFault("heat not (not (not (not (1))));", 2, 24);
        Check.dueFault("heat (not (not (not (not 1))));", 2, 21);
        Check.dueRiver("heat (((((((1)))))))+(((((((2)))))));", 0);
        Check.dueRiver("heat not not not not not not not 1 and not not not not not not not 0;", 0);
        String thirty = "heat 1" + "+1".repeat(29);
        Check.dueRiver(thirty + ";", 0);
        Check.dueFault(thirty + "+1;", 2, thirty.length() + 1);
        Check.dueFault(thirty + "+(1);", 2, thirty.length() + 1);
        String inner = "heat 1" + "+1".repeat(28);
        Check.dueFault(inner + "+(1);", 2, inner.length() + 2);
        due("units of (1)", 2, told("heat (1);").about(11));
        due("units of not 1", 1, told("heat not 1;").about(11));
        due("units of 1+load/5", 3, told(RIVER).about(11));
        due("units of 30", 30, told(thirty + ";").about(11));
        String nots = "not not not not not not not 1";
        Check.dueRiver("heat " + (nots + " or ").repeat(29) + nots + ";", 0);
        due("many nots", 0, told("board a wide 1 at 0;heat " + (nots + " or ").repeat(29) + nots + ";").hotter(0));
    }

    // 9 and what heat is
    private static void hotterIs(String formula, int want) {
        BoardCrossing x = told("water 4 by 3;board b wide 9 at 2 bears 90;load l wide 4;heat " + formula + ";");
        due("hotter by " + formula, want, x.hotter(0));
    }

    private static void formulas() {
        hotterIs("7", 7);
        hotterIs("99", 99);
        hotterIs("100", 99);
        hotterIs("0-5", 0);
        hotterIs("column", 2);
        hotterIs("row", 0);
        hotterIs("wide", 9);
        hotterIs("load", 0);
        hotterIs("strokes", 0);
        hotterIs("hot", 0);
        hotterIs("1+2*3", 7);
        hotterIs("(1+2)*3", 9);
        hotterIs("20-3-4", 13);
        hotterIs("40/3/2", 6);
        hotterIs("17%5*2", 4);
        hotterIs("0-7/2+10", 7);
        hotterIs("(0-7)/2+10", 7);
        hotterIs("(0-7)%2+10", 9);
        hotterIs("5/0+3", 3);
        hotterIs("5%0+3", 3);
        hotterIs("2<3", 1);
        hotterIs("3<3", 0);
        hotterIs("3>2", 1);
        hotterIs("3>3", 0);
        hotterIs("3=3", 1);
        hotterIs("3=4", 0);
        hotterIs("5 or 0", 1);
        hotterIs("0 or 0", 0);
        hotterIs("5 and 7", 1);
        hotterIs("5 and 0", 0);
        hotterIs("1 or 1 and 0", 1);
        hotterIs("(1 or 1) and 0", 0);
        hotterIs("not 5", 0);
        hotterIs("not 0", 1);
        hotterIs("not 0-1", 0);
        hotterIs("not 2<1", 1);
        hotterIs("not 0 and 0", 0);
        hotterIs("9999*9999*9999", 0);
        hotterIs("9999*9999*9999*9999%100", 1);
        hotterIs("(2<3)+(2<3)*5", 6);
        BoardCrossing x = told("water 4 by 3;board b wide 9 at 2 bears 90;load l wide 4;current 1 at 2 0;heat 1+row*30+column*4+load+strokes*2+hot/10;");
        due("hotter", 9, x.hotter(0));
        x.stow(0, 0);
        due("hotter with a load", 13, x.hotter(0));
        x.stroke(0, 0, true);
        due("hot", 13, x.board(0, 2));
        due("hotter further on", 1 + 30 + 12 + 4 + 2 + 1, x.hotter(0));
        x.stroke(0, -1, true);
        due("hot then", 63, x.board(0, 2));
        due("hotter is 99 at most", 83, x.hotter(0));
        due("hotter(1)", -1, x.hotter(1));
        due("hotter(-1)", -1, x.hotter(-1));
        due("hotter(LOW)", -1, x.hotter(LOW));
        due("hotter if heat is not told", 1, told("board b wide 1 at 1;").hotter(0));
    }

    // 6, 7
    private static void boardAndLoad() {
        BoardCrossing x = told(RIVER);
        int[] first = {1, 0, 0, 0, 0, 10, 4, 0, 0, -1};
        int[] second = {3, 0, 0, 0, 0, 6, 20, 0, 0, -1};
        for (int what = 0; what < 10; what++) {
            due("board(0, " + what + ")", first[what], x.board(0, what));
            due("board(1, " + what + ")", second[what], x.board(1, what));
            due("board(2, " + what + ")", -1, x.board(2, what));
        }
        due("board(-1, 0)", -1, x.board(-1, 0));
        due("board(HIGH, 0)", -1, x.board(HIGH, 0));
        due("board(0, -1)", -1, x.board(0, -1));
        x.stow(1, 0);
        x.stow(3, 0);
        x.stow(2, 1);
        x.stroke(0, 0, true);
        int[] then = {3, 1, 2, 0, 1, 10, 4, 6, 10};
        for (int what = 0; what < then.length; what++) {
            due("board(0, " + what + ") then", then[what], x.board(0, what));
        }
        due("load(0, 0)", 5, x.load(0, 0));
        due("load(0, 1)", -1, x.load(0, 1));
        due("load(1, 1)", 0, x.load(1, 1));
        due("load(2, 1)", 1, x.load(2, 1));
        due("load(3, 0)", 2, x.load(3, 0));
        due("load(3, 2)", -3, x.load(3, 2));
        due("load(3, -1)", -3, x.load(3, -1));
        due("load(4, 0)", -3, x.load(4, 0));
        due("load(-1, 0)", -3, x.load(-1, 0));
        due("load(LOW, 0)", -3, x.load(LOW, 0));
    }

    // 8
    private static void spotAndHotter() {
        BoardCrossing x = told(RIVER);
        due("spot(1, 0, 0)", 1, x.spot(1, 0, 0));
        due("spot(2, 1, 0)", 2, x.spot(2, 1, 0));
        due("spot(2, 0, 0)", 0, x.spot(2, 0, 0));
        due("spot(4, 2, 0)", 0, x.spot(4, 2, 0));
        due("spot(4, 2, 1)", 1, x.spot(4, 2, 1));
        due("spot(2, 1, 1)", 0, x.spot(2, 1, 1));
        due("spot(4, 3, 0)", 0, x.spot(4, 3, 0));
        due("spot(4, 4, 0)", -1, x.spot(4, 4, 0));
        due("spot(5, 0, 0)", -1, x.spot(5, 0, 0));
        due("spot(-1, 0, 0)", -1, x.spot(-1, 0, 0));
        due("spot(0, -1, 0)", -1, x.spot(0, -1, 0));
        due("spot(0, 0, 2)", -1, x.spot(0, 0, 2));
        due("spot(0, 0, -1)", -1, x.spot(0, 0, -1));
        due("spot(HIGH, HIGH, 0)", -1, x.spot(HIGH, HIGH, 0));
        due("spot(LOW, LOW, 1)", -1, x.spot(LOW, LOW, 1));
    }

    // 10
    private static void strokes() {
        BoardCrossing x = told("water 4 by 2;board b wide 1 at 0;current 3 at 1 1;draw 5;");
        due("home from the near bank", -1, x.stroke(0, 0, false));
        due("steer 2", -1, x.stroke(0, 2, true));
        due("steer -2", -1, x.stroke(0, -2, true));
        due("steer LOW", -1, x.stroke(0, LOW, true));
        due("board 1", -1, x.stroke(1, 0, true));
        due("board -1", -1, x.stroke(-1, 0, true));
        due("no seed is drawn for these", 5, x.about(5));
        due("no acts of these", 0, x.about(6));
        due("no further than the outer column", 0, x.stroke(0, -1, true));
        due("column", 0, x.board(0, 0));
        due("row", 1, x.board(0, 1));
        due("seed", 756, x.about(5));
        x.stroke(0, 1, false);
        due("column home", 1, x.board(0, 0));
        due("row home", 0, x.board(0, 1));
        x.stroke(0, 0, true);
        x.stroke(0, 1, true);
        due("no further by the current", 3, x.board(0, 0));
        due("on the far bank", 2, x.board(0, 1));
        due("strokes", 4, x.board(0, 4));
        due("heat of 1 each", 4, x.board(0, 2));
        due("out from the far bank", -1, x.stroke(0, 0, true));
        x.stroke(0, -1, false);
        x = told("water 4 by 2;board b wide 1 at 0;current 3 at 1 1;");
        x.stroke(0, 1, true);
        x.stroke(0, -1, false);
        due("the current leads home, too", 3, x.board(0, 0));
        x = told("water 4 by 2;board b wide 1 at 3;current 7 at 3 0;");
        x.stroke(0, -1, true);
        due("steer and current together", 3, x.board(0, 0));
        x = told("water 4 by 2;board b wide 1 at 0;current 1 at 0 0;");
        x.stroke(0, -1, true);
        due("steer against the current at the edge", 0, x.board(0, 0));
    }

    private static void hissesAndScorches() {
        BoardCrossing x = told("water 3 by 3;iron 1 1;iron 1 2;board b wide 1 at 1 bears 2;");
        due("a hiss", 1, x.stroke(0, 0, true));
        due("column stays", 1, x.board(0, 0));
        due("row stays", 0, x.board(0, 1));
        due("a stroke more", 1, x.board(0, 4));
        due("heat of a hiss", 1, x.board(0, 2));
        due("as hot as it bears", 1, x.stroke(0, 0, true));
        due("heat 2", 2, x.board(0, 2));
        due("a hiss and a scorch", 3, x.stroke(0, 0, true));
        due("heat 0", 0, x.board(0, 2));
        due("scorched once", 1, x.board(0, 3));
        x.stroke(0, 1, true);
        x.stroke(0, 0, true);
        due("a scorch", 2, x.stroke(0, -1, true));
        due("scorched twice", 2, x.board(0, 3));
        due("over", 3, x.board(0, 1));
        due("a hiss on the way home", 1, x.stroke(0, 0, false));
        due("it stays on the far bank", 3, x.board(0, 1));
        x = told("water 3 by 3;board b wide 1 at 1 bears 99;heat 60;");
        x.stroke(0, 0, true);
        due("99 at most is no scorch", 0, x.stroke(0, 0, true));
        due("heat 99", 99, x.board(0, 2));
        x = told("water 3 by 3;board b wide 1 at 1 bears 0;heat 0-3;");
        due("0 at least", 0, x.stroke(0, 0, true));
        due("heat 0", 0, x.board(0, 2));
    }

    private static void floods() {
        BoardCrossing x = told("water 8 by 2;board b wide 1 at 0;current 1 at 0 0;current 2 at 1 1;current 2 at 2 1;flood 4;draw 9;");
        due("the seed 304: 4 is not less than 4", 0, x.stroke(0, 0, true));
        due("no flood", 1, x.board(0, 0));
        x.stroke(0, 0, true);
        due("the seed 719", 719, x.about(5));
        x = told("water 8 by 2;board b wide 1 at 0;current 1 at 0 0;current 2 at 1 1;current 2 at 2 1;flood 5;draw 9;");
        x.stroke(0, 0, true);
        due("a flood", 2, x.board(0, 0));
        x.stroke(0, 1, true);
        due("no flood then", 5, x.board(0, 0));
        x = told("water 8 by 2;board b wide 1 at 0;current 1 at 0 0;flood 100;");
        x.stroke(0, -1, true);
        due("a flood leaves the steer", 1, x.board(0, 0));
        due("no floods in questions", 1, told("water 8 by 1;board b wide 1 at 0;current 1 at 0 0;flood 100;").drift(0));
    }

    // 11, 12
    private static void stowAndTake() {
        BoardCrossing x = told("water 3 by 2;board a wide 9 at 0;board b wide 0 at 1;load k wide 4;load l wide 5;load m wide 1;load n wide 0;");
        due("stow(4, 0)", -1, x.stow(4, 0));
        due("stow(-1, 0)", -1, x.stow(-1, 0));
        due("stow(0, 2)", -1, x.stow(0, 2));
        due("stow(0, -1)", -1, x.stow(0, -1));
        due("stow(HIGH, LOW)", -1, x.stow(HIGH, LOW));
        due("stow(0, 1) does not lie flat", -1, x.stow(0, 1));
        due("stow(3, 1) of nothing", 0, x.stow(3, 1));
        due("stow(3, 0) is on a board", -1, x.stow(3, 0));
        due("stow(0, 0)", 4, x.stow(0, 0));
        due("stow(1, 0)", 9, x.stow(1, 0));
        due("stow(2, 0) is too wide", -1, x.stow(2, 0));
        due("acts", 3, x.about(6));
        due("take(2) is on none", -1, x.take(2));
        due("take(4)", -1, x.take(4));
        due("take(-1)", -1, x.take(-1));
        due("take(LOW)", -1, x.take(LOW));
        due("take(1)", 0, x.take(1));
        due("on the near bank again", -1, x.load(1, 1));
        x.stroke(0, 0, true);
        due("take in the river", -1, x.take(0));
        due("stow in the river", -1, x.stow(1, 0));
        x.stroke(0, 0, true);
        due("stow on the other bank", -1, x.stow(1, 0));
        due("take on the far bank", 0, x.take(0));
        due("it is there", -2, x.load(0, 1));
        due("over", 1, x.over());
        due("take it once more", -1, x.take(0));
        due("stow from the far bank", 4, x.stow(0, 0));
        due("stow on a board of the other bank", -1, x.stow(2, 1));
    }

    // 13
    private static void cool() {
        BoardCrossing x = told("board b wide 1 at 1 bears 30;heat 12;");
        x.stroke(0, 0, true);
        due("cool(0, 0)", -1, x.cool(0, 0));
        due("cool(0, 10)", -1, x.cool(0, 10));
        due("cool(0, -1)", -1, x.cool(0, -1));
        due("cool(1, 1)", -1, x.cool(1, 1));
        due("cool(-1, 1)", -1, x.cool(-1, 1));
        due("acts", 1, x.about(6));
        due("cool(0, 1)", 11, x.cool(0, 1));
        due("cool(0, 9)", 2, x.cool(0, 9));
        due("cool(0, 9) to 0", 0, x.cool(0, 9));
        due("cool(0, 5) at 0", 0, x.cool(0, 5));
        due("all are acts", 5, x.about(6));
        due("heat", 0, x.board(0, 2));
    }

    // 14, 15
    private static void undoAndRedo() {
        BoardCrossing x = told(RIVER);
        due("undo of none", false, x.undo());
        due("redo of none", false, x.redo());
        x.stow(0, 0);
        x.stroke(0, 1, true);
        x.cool(0, 1);
        due("undo the cooling", true, x.undo());
        due("heat", 2, x.board(0, 2));
        due("undo the stroke", true, x.undo());
        due("column", 1, x.board(0, 0));
        due("row", 0, x.board(0, 1));
        due("strokes", 0, x.board(0, 4));
        due("the seed", 9, x.about(5));
        due("undoable", 1, x.about(6));
        due("redoable", 2, x.about(7));
        due("undo the load", true, x.undo());
        due("the load", -1, x.load(0, 1));
        due("no more", false, x.undo());
        due("redo the load", true, x.redo());
        due("the load", 0, x.load(0, 1));
        due("redo the stroke", true, x.redo());
        due("the seed", 304, x.about(5));
        due("row", 1, x.board(0, 1));
        due("a call that can't be leaves redo", -1, x.cool(0, 10));
        due("redoable", 1, x.about(7));
        due("another act", 0, x.stroke(0, -1, true));
        due("ends redo", false, x.redo());
        due("undoable", 3, x.about(6));
        x = told("board b wide 1 at 3 bears 99;heat 1;");
        for (int i = 0; i < 45; i++) {
            x.stroke(0, 0, i % 2 == 0);
        }
        due("40 at most", 40, x.about(6));
        for (int i = 0; i < 40; i++) {
            due("undo " + i, true, x.undo());
        }
        due("the oldest are gone", false, x.undo());
        due("strokes then", 5, x.board(0, 4));
        due("redoable", 40, x.about(7));
        for (int i = 0; i < 40; i++) {
            due("redo " + i, true, x.redo());
        }
        due("no more to redo", false, x.redo());
        due("strokes then", 45, x.board(0, 4));
        due("heat then", 45, x.board(0, 2));
    }

    // 16, 17, 18
    private static void landingsDriftRows() {
        BoardCrossing x = told(RIVER);
        due("landings(0)", 31, x.landings(0));
        due("landings(1)", 30, x.landings(1));
        due("landings(2)", -1, x.landings(2));
        due("landings(-1)", -1, x.landings(-1));
        due("drift(0) hisses", -1, x.drift(0));
        due("drift(1)", 3, x.drift(1));
        due("drift(2)", -1, x.drift(2));
        due("rows(0)", 18, x.rows(0));
        due("rows(1)", 12, x.rows(1));
        due("rows(2)", -1, x.rows(2));
        due("rows(LOW)", -1, x.rows(LOW));
        due("all rows", 729, told("board b wide 1 at 0;").rows(0));
        due("all landings", 127, told("board b wide 1 at 0;").landings(0));
        x = told("water 3 by 2;iron 0 1;iron 1 1;iron 2 1;board b wide 1 at 0;");
        due("no rows", 0, x.rows(0));
        due("no landings", 0, x.landings(0));
        due("no drift", -1, x.drift(0));
        due("no coolest", -1, x.coolest(0, 0));
        due("no straightest", -1, x.straight(0, 0));
        x = told("water 3 by 1;board b wide 1 at 1;");
        x.stroke(0, 1, true);
        due("rows on the far bank", 1, x.rows(0));
        due("landings on the far bank", 4, x.landings(0));
        due("drift on the far bank", 2, x.drift(0));
    }

    // 19
    private static void coolest() {
        BoardCrossing x = told("water 3 by 2;board b wide 1 at 1 bears 9;heat 6-column*3;");
        due("coolest(0, 1)", 3, x.coolest(0, 1));
        Check.dueLying("coolest", x, 1, -1);
        due("coolest(0, 2)", 1, x.coolest(0, 2));
        due("coolest(0, 0)", 0, x.coolest(0, 0));
        due("coolest(0, 3)", -1, x.coolest(0, 3));
        Check.dueLying("coolest behind NONE", x);
        x.coolest(0, 0);
        due("coolest(1, 0)", -1, x.coolest(1, 0));
        Check.dueLying("coolest of no board", x);
        due("coolest(0, -1)", -1, x.coolest(0, -1));
        due("coolest(-1, 0)", -1, x.coolest(-1, 0));

        x = told("water 3 by 2;board b wide 1 at 1 bears 4;heat 1+row*(2+column*7);");
        due("scorched less often goes first", 0, x.coolest(0, 0));
        due("its heat", 4, x.coolest(0, 1));
        Check.dueLying("coolest with less scorches", x, -1, -1);
        x = told("water 2 by 2;board b wide 1 at 0 bears 5;heat 3+row*5;");
        due("a scorch that can't be helped", 1, x.coolest(0, 0));
        due("heat behind it", 0, x.coolest(0, 1));
        x.stroke(0, 0, true);
        x.stroke(0, 1, true);
        due("scorches before do not count", 0, x.coolest(0, 0));
        due("heat on the far bank", 0, x.coolest(0, 1));
        due("column on the far bank", 1, x.coolest(0, 2));
        Check.dueLying("coolest on the far bank", x);
        x = told("water 4 by 3;board b wide 5 at 1 bears 90;load l wide 3;heat load+strokes*2+hot%2;");
        x.stow(0, 0);
        x.stroke(0, 0, true);
        x.cool(0, 1);
        due("by load, strokes and heat of now", 2 + 5 + 8, x.coolest(0, 1));
    }

    // 20
    private static void straight() {
        BoardCrossing x = told(RIVER);
        due("straight(0, 3)", 1, x.straight(0, 3));
        Check.dueLying("straight(0, 3)", x, 0, -1, 0);
        due("straight(0, 2)", 2, x.straight(0, 2));
        Check.dueLying("straight(0, 2)", x, -1, 0, 1);
        due("straight(1, 3)", 0, x.straight(1, 3));
        Check.dueLying("straight(1, 3)", x, 0, 0, 0);
        due("straight(1, 0)", -1, x.straight(1, 0));
        Check.dueLying("no landing", x);
        x.straight(1, 3);
        due("straight(1, 5)", -1, x.straight(1, 5));
        Check.dueLying("no column", x);
        due("straight(1, -1)", -1, x.straight(1, -1));
        due("straight(2, 1)", -1, x.straight(2, 1));
        due("straight(LOW, HIGH)", -1, x.straight(LOW, HIGH));
        x = told("water 3 by 1;board b wide 1 at 0;");
        due("the edge: no steer before one", 0, x.straight(0, 0));
        Check.dueLying("the edge", x, 0);
        x.stroke(0, 0, true);
        due("on the far bank", 0, x.straight(0, 0));
        Check.dueLying("on the far bank", x);
        due("another column there", -1, x.straight(0, 1));
    }

    // 21
    private static void widest() {
        BoardCrossing x = told("water 3 by 2;board b wide 10 at 1;load j wide 3;load k wide 7;load l wide 4;load m wide 6;load n wide 0;");
        due("widest(0, 0)", 10, x.widest(0, 0));
        due("the least set", 3, x.widest(0, 1));
        due("widest(0, 2)", -1, x.widest(0, 2));
        due("widest(0, -1)", -1, x.widest(0, -1));
        due("widest(1, 0)", -1, x.widest(1, 0));
        due("widest(-1, 0)", -1, x.widest(-1, 0));
        x.stow(0, 0);
        due("with what is there", 7, x.widest(0, 0));
        due("which", 2, x.widest(0, 1));
        x.stow(2, 0);
        due("no room but for nothing", 0, x.widest(0, 0));
        due("the least set of nothing", 0, x.widest(0, 1));
        x.stroke(0, 0, true);
        due("in the river", -1, x.widest(0, 0));
        due("all of them", 127, told("board b wide 28 at 0;load c wide 1;load d wide 2;load e wide 3;load f wide 4;load g wide 5;"
            + "load h wide 6;load i wide 7;").widest(0, 1));
        x.stroke(0, 0, true);
        due("none on the far bank", 0, x.widest(0, 0));
        x.take(2);
        due("one on the far bank", 4, x.widest(0, 1));
    }

    // 22
    private static void trips() {
        BoardCrossing x = told("water 3 by 2;board b wide 10 at 1;load j wide 3;load k wide 8;load l wide 3;load m wide 2;load n wide 4;load o wide 0;");
        due("trips(0)", 2, x.trips(0));
        Check.dueLying("trips(0)", x, 0, 1, 0, 1, 0, 0);
        due("trips(1)", -1, x.trips(1));
        Check.dueLying("trips behind NONE", x);
        due("trips(-1)", -1, x.trips(-1));
        x.stow(0, 0);
        x.stow(4, 0);
        due("what is on it is taken off first", 2, x.trips(0));
        Check.dueLying("trips of the rest", x, -1, 0, 1, 0, -1, 0);
        x.stroke(0, 0, true);
        due("from anywhere", 2, x.trips(0));
        x = told("board b wide 10 at 1;board c wide 11 at 1;load j wide 11;");
        due("too wide", -1, x.trips(0));
        due("not too wide", 1, x.trips(1));
        x.stow(0, 1);
        due("a load elsewhere is not too wide", 0, x.trips(0));
        Check.dueLying("no load on the near bank", x, -1);
        due("no loads", 0, told("board b wide 10 at 1;").trips(0));
        x = told("board b wide 9 at 1;load c wide 5;load d wide 5;load e wide 5;load f wide 5;load g wide 5;load h wide 5;load i wide 5;");
        due("each by itself", 7, x.trips(0));
        Check.dueLying("each by itself", x, 0, 1, 2, 3, 4, 5, 6);
        x = told("board b wide 10 at 1;load c wide 2;load d wide 3;load e wide 8;load f wide 7;");
        due("not the first that fits", 2, x.trips(0));
        Check.dueLying("not the first that fits", x, 0, 1, 0, 1);
    }

    // 23
    private static void stowing() {
        BoardCrossing x = told("water 3 by 2;board b wide 5 at 1;board c wide 9 at 1;board d wide 9 at 0;load j wide 3;load k wide 4;load l wide 2;");
        due("stowing()", 1, x.stowing());
        Check.dueLying("stowing()", x, 1, 1, 1);
        x.stroke(1, 0, true);
        due("only boards at the near bank", 1, x.stowing());
        Check.dueLying("only boards at the near bank", x, 2, 2, 2);
        x.stow(1, 2);
        due("with what is on them", 1, x.stowing());
        Check.dueLying("with what is on them", x, 0, -1, 0);
        x.undo();
        x.stroke(2, 0, true);
        due("not all can be", -1, x.stowing());
        Check.dueLying("stowing behind NONE", x);
        x = told("board b wide 5 at 1;board c wide 4 at 1;load j wide 1;load k wide 4;load l wide 4;");
        due("both", 2, x.stowing());
        Check.dueLying("both", x, 0, 0, 1);
        due("no boards", -1, told("load j wide 0;").stowing());
        due("no loads", 0, told("board b wide 3 at 1;").stowing());
        x = told("board b wide 0 at 1;load j wide 0;");
        due("nothing is put, too", 1, x.stowing());
        x = told("water 3 by 1;board b wide 5 at 1;load j wide 3;load k wide 3;");
        x.stow(0, 0);
        due("no room by its burden", -1, x.stowing());
    }

    // 24
    private static void meet() {
        BoardCrossing x = told("water 8 by 3;board b wide 1 at 0;board c wide 1 at 1;board d wide 1 at 5;board e wide 1 at 0;");
        due("side by side", 0, x.meet(0, 1));
        due("one column", 1, x.meet(0, 3));
        due("two strokes", 2, x.meet(0, 2));
        due("two strokes, turned", 2, x.meet(2, 0));
        due("near", 2, x.meet(1, 2));
        due("both are one", -1, x.meet(1, 1));
        due("meet(0, 4)", -1, x.meet(0, 4));
        due("meet(-1, 0)", -1, x.meet(-1, 0));
        due("meet(LOW, HIGH)", -1, x.meet(LOW, HIGH));
        x.stroke(0, 0, true);
        due("two rows", -1, x.meet(0, 1));
        x = told("water 8 by 4;current 3 at 0 1;board b wide 1 at 0;board c wide 1 at 0;");
        due("apart by the first stroke", 1, x.meet(0, 1));
        x = told("water 8 by 4;current 3 at 0 1;iron 0 2;iron 5 2;board b wide 1 at 0;board c wide 1 at 7;");
        x.stroke(0, 0, true);
        x.stroke(1, 0, true);
        due("from row 1", 2, x.meet(0, 1));
        due("from row 1, turned", 2, x.meet(1, 0));
        due("never", -1, told("water 8 by 2;board b wide 1 at 0;board c wide 1 at 7;").meet(0, 1));
        due("at the far bank", 3, told("water 8 by 3;board b wide 1 at 0;board c wide 1 at 7;").meet(0, 1));
        due("one column wide", -1, told("water 1 by 3;board b wide 1 at 0;board c wide 1 at 0;").meet(0, 1));
        due("an iron between", 2, told("water 4 by 3;iron 1 1;iron 2 1;board b wide 1 at 0;board c wide 1 at 3;").meet(0, 1));
        due("an iron ahead of one", -1, told("water 2 by 3;iron 0 1;iron 1 1;board b wide 1 at 0;board c wide 1 at 0;").meet(0, 1));
    }

    // 25
    private static void mooring() {
        BoardCrossing x = told("water 4 by 1;board b wide 1 at 1;board c wide 1 at 1;board d wide 1 at 1;board e wide 1 at 3;");
        due("mooring(2)", -1, x.mooring(2));
        Check.dueLying("nothing is found for another what", x);
        due("mooring(0)", 4, x.mooring(0));
        Check.dueLying("mooring", x, 0, 1, 2, 3);
        due("straight", 0, x.straight(0, 1));
        due("mooring(2)", -1, x.mooring(2));
        due("mooring(-1)", -1, x.mooring(-1));
        due("mooring(least)", -1, x.mooring(Integer.MIN_VALUE));
        due("mooring(most)", -1, x.mooring(Integer.MAX_VALUE));
        Check.dueLying("what lay there is left alone", x, 0);
        due("mooring(1)", 2, x.mooring(1));
        Check.dueLying("mooring(1) lays it, too", x, 0, 1, 2, 3);
        x.stroke(0, 0, true);
        due("only boards at the near bank", 3, x.mooring(0));
        Check.dueLying("only boards at the near bank", x, -1, 0, 1, 3);
        x = told("water 2 by 1;board b wide 1 at 1;board c wide 1 at 1;board d wide 1 at 0;");
        due("two landings for three", 2, x.mooring(0));
        due("none between", 0, x.mooring(1));
        Check.dueLying("the first of like ones", x, 1, -1, 0);
        x = told("water 3 by 2;iron 0 1;iron 1 1;iron 2 1;board b wide 1 at 1;");
        due("no landing", 0, x.mooring(0));
        due("nothing between", 0, x.mooring(1));
        Check.dueLying("no landing", x, -1);
        x = told("water 5 by 1;current 1 at 1 0;board b wide 1 at 1;board c wide 1 at 1;");
        due("by the current", 1, x.mooring(1));
        Check.dueLying("by the current", x, 1, 2);
    }

    // 26
    private static void guests() {
        BoardCrossing x = told("water 8 by 2;board b wide 1 at 1;board c wide 1 at 3;board d wide 1 at 1;");
        due("each at its own", 1, x.guests(0, 1));
        Check.dueLying("each at its own", x, 1, 3);
        due("turned", 1, x.guests(1, 0));
        Check.dueLying("turned", x, 3, 1);
        due("who want one", 4, x.guests(0, 2));
        Check.dueLying("who want one", x, 0, 1);
        due("both are one", -1, x.guests(0, 0));
        Check.dueLying("guests behind NONE", x);
        due("guests(0, 3)", -1, x.guests(0, 3));
        due("guests(-1, 0)", -1, x.guests(-1, 0));
        x = told("water 1 by 2;board b wide 1 at 0;board c wide 1 at 0;");
        due("both at one", 1, x.guests(0, 1));
        Check.dueLying("both at one", x, 0, 0);
        x = told("water 3 by 2;iron 0 1;iron 1 1;board b wide 1 at 0;board c wide 1 at 2;");
        due("one has no landing", -1, x.guests(0, 1));
        due("the other one has none", -1, x.guests(1, 0));
        x = told("water 8 by 1;board b wide 1 at 0;board c wide 1 at 0;current 7 at 0 0;");
        due("far off: sharing loses 7, the next 6", 2, x.guests(0, 1));
        Check.dueLying("far off", x, 6, 7);
    }

    // 27
    private static void singe() {
        BoardCrossing x = told("water 3 by 4;board b wide 1 at 1 bears 2;board c wide 1 at 1 bears 4;board d wide 1 at 0;iron 0 2;heat 1;");
        due("singe(0)", 3, x.singe(0));
        due("never on the way", -1, x.singe(1));
        due("singe(3)", -1, x.singe(3));
        due("singe(-1)", -1, x.singe(-1));
        x.stroke(0, 0, true);
        due("by what is now", 2, x.singe(0));
        x = told("water 3 by 4;board d wide 1 at 0 bears 1;board e wide 1 at 0 bears 0;iron 0 2;heat 1;");
        due("it hisses by then", -1, x.singe(0));
        due("it hisses later", 1, x.singe(1));
        x = told("water 5 by 4;board d wide 1 at 0 bears 9;heat row*2+column+strokes;current 1 at 0 1;");
        due("by row, column and strokes: 0, 3, 7, 10", 3, x.singe(0));
        x.stroke(0, 0, true);
        due("behind one", 2, x.singe(0));
        x = told("water 5 by 4;board d wide 5 at 0 bears 9;heat load;load k wide 4;");
        due("never without a load", -1, x.singe(0));
        x.stow(0, 0);
        due("by its load", 3, x.singe(0));
        x = told("water 2 by 1;board b wide 1 at 1 bears 5;heat 9;");
        due("at the far bank", 1, x.singe(0));
        x.stroke(0, 0, true);
        due("on the far bank", -1, x.singe(0));
    }

    // 28
    private static void odds() {
        BoardCrossing x = told("water 8 by 4;board b wide 1 at 0;current 1 at 0 0;current 1 at 1 1;current 1 at 2 1;iron 4 2;flood 30;");
        due("odds(0, 2, 0)", 49, x.odds(0, 2, 0));
        due("odds(0, 2, 1)", 100, x.odds(0, 2, 1));
        due("odds(0, 3, 0): 21 and 21", 21, x.odds(0, 3, 0));
        due("odds(0, 3, 1)", 50, x.odds(0, 3, 1));
        due("odds(0, 4, 0) hisses", 0, x.odds(0, 4, 0));
        due("odds(0, 4, 1)", 1, x.odds(0, 4, 1));
        due("odds(0, 8, 0)", -1, x.odds(0, 8, 0));
        due("odds(0, -1, 0)", -1, x.odds(0, -1, 0));
        due("odds(0, 0, 2)", -1, x.odds(0, 0, 2));
        due("odds(0, 0, -1)", -1, x.odds(0, 0, -1));
        due("odds(1, 0, 0)", -1, x.odds(1, 0, 0));
        x = told("board b wide 1 at 0;");
        due("6 strokes left", -1, x.odds(0, 0, 0));
        x.stroke(0, 0, true);
        due("5 strokes left", -1, x.odds(0, 0, 1));
        x.stroke(0, 0, true);
        due("4 strokes left", 1, x.odds(0, 0, 0));
        x = told("water 2 by 4;board b wide 1 at 0;current 1 at 0 0;current 0 at 0 1;iron 1 1;flood 37;");
        due("hisses anyway", 0, x.odds(0, 1, 0));
        x = told("water 8 by 4;board b wide 1 at 0;current 1 at 0 0;current 1 at 1 1;current 1 at 2 2;current 1 at 3 3;iron 2 1;iron 3 2;iron 4 3;flood 1;");
        due("99 of 100, four times", 96059601, x.odds(0, 4, 0));
        due("of 100 to the fourth", 100000000, x.odds(0, 4, 1));
        x = told("water 3 by 1;board b wide 1 at 0;flood 50;");
        x.stroke(0, 1, true);
        due("on the far bank", 1, x.odds(0, 1, 0));
        due("of 1", 1, x.odds(0, 1, 1));
        due("not elsewhere", 0, x.odds(0, 0, 0));
    }

    // 29 to 33
    private static void smallQuestions() {
        BoardCrossing x = told("water 3 by 1;current 0 at 0 0;current 2 at 1 0;board b wide 20 at 0;board c wide 20 at 1 bears 19;board d wide 1 at 1 bears 19;"
            + "load i wide 0;load j wide 7;load k wide 9;load l wide 99;");
        due("over()", 0, x.over());
        due("left()", 115, x.left());
        due("pulled()", 6, x.pulled());
        due("pulled() by 1", 1, told("board b wide 1 at 7;board c wide 1 at 6;current 1 at 7 0;").pulled());
        due("hottest()", 1, x.hottest());
        due("law(0)", 1, x.law(0));
        due("law(6)", 1, x.law(6));
        due("law(7)", 2, x.law(7));
        due("law(99)", 4, x.law(99));
        due("law(100)", -1, x.law(100));
        due("law(-1)", -1, x.law(-1));
        x.stow(1, 0);
        x.stow(2, 0);
        due("law(99) without what is on boards", 2, x.law(99));
        due("left() with what is on boards", 115, x.left());
        x.stroke(0, 0, true);
        x.take(2);
        due("over()", 4, x.over());
        due("left()", 106, x.left());
        due("law(99)", 2, x.law(99));
        x.stroke(1, 0, true);
        due("pulled()", 4, x.pulled());
        due("hottest()", 1, x.hottest());
        x.stroke(2, 0, true);
        x.cool(1, 1);
        due("hottest()", 2, x.hottest());
        due("hottest() without boards", -1, new BoardCrossing().hottest());
    }

    // 34
    private static void lies() {
        BoardCrossing x = told(RIVER);
        due("nothing lies there", -2, x.lies(0));
        x.trips(0);
        due("lies(3)", 1, x.lies(3));
        due("lies(4)", -2, x.lies(4));
        due("lies(-1)", -2, x.lies(-1));
        due("lies(HIGH)", -2, x.lies(HIGH));
        x.stroke(0, 0, true);
        x.undo();
        x.landings(0);
        due("it stays there", 4, x.about(12));
        x.mooring(0);
        due("till other numbers lie there", 2, x.about(12));
    }

    // 35, 36, 39
    private static void seen() {
        BoardCrossing x = told("water 5 by 3;iron 2 1;board b wide 3 at 2 bears 3;heat 1+column%2;load l wide 3;current 1 at 1 1;flood 100;");
        due("all", 27, x.fits(0));
        due("passed(1, 3, true)", 0, x.passed(1, 3, true));
        due("fits", 9, x.fits(0));
        due("passed(1, 3, false)", 1, x.passed(1, 3, false));
        due("none", 0, x.fits(0));
        x.untell(0);
        due("without the first", 18, x.fits(0));
        due("passed(1, 2, true): hissing leaves it there", 2, x.passed(1, 2, true));
        due("fits", 9, x.fits(0));
        due("passed(0, 1, true)", -1, x.passed(0, 1, true));
        due("passed(4, 1, true)", -1, x.passed(4, 1, true));
        due("passed(1, 8, true)", -1, x.passed(1, 8, true));
        due("passed(1, -1, true)", -1, x.passed(1, -1, true));
        due("felt(0, 1, true)", -1, x.felt(0, 1, true));
        due("felt(4, 1, true)", -1, x.felt(4, 1, true));
        due("felt(1, 100, true)", -1, x.felt(1, 100, true));
        due("felt(1, -1, true)", -1, x.felt(1, -1, true));
        due("felt(LOW, HIGH, true)", -1, x.felt(LOW, HIGH, true));
        due("felt(2, 3, true)", 3, x.felt(2, 3, true));
        due("from column 2 it is never so hot", 0, x.fits(0));
        x.untell(3);
        due("passed(3, 7, false)", 4, x.passed(3, 7, false));
        due("what can't be else", 9, x.fits(0));
        due("felt(3, 99, false)", 5, x.felt(3, 99, false));
        for (int n = 6; n < 30; n++) {
            due("seen " + n, n, x.felt(1, 0, true));
        }
        due("30 at most", -1, x.felt(1, 0, true));
        due("30 at most", -1, x.passed(1, 0, true));
        due("seen", 30, x.about(8));
        due("untold ones count", false, x.untell(0));
        BoardCrossing none = told("load l wide 1;");
        due("passed without boards", -1, none.passed(1, 0, true));
        due("felt without boards", -1, none.felt(1, 0, true));
        due("fits without boards", 0, none.fits(0));

        x = told("water 5 by 3;iron 2 1;board b wide 3 at 2 bears 4;heat 1+column%2+load;load l wide 3;current 1 at 1 1;flood 100;");
        x.passed(1, 2, false);
        int before = x.fits(0);
        x.stow(0, 0);
        x.stroke(0, 1, true);
        due("as told, whatever was done", before, x.fits(0));
        x.felt(2, 3, true);
        due("column 1: 1, then 2", 9, x.fits(0));
        x.felt(3, 0, true);
        x.felt(3, 1, false);
        due("scorched: heat 0 behind 3 from column 1 or 3", 6, x.fits(0));
    }

    // 37, 38
    private static void times() {
        BoardCrossing x = told("water 8 by 3;board b wide 3 at 2;");
        due("later(0)", 0, x.later(0));
        due("later(-1)", -1, x.later(-1));
        due("later(1001)", -1, x.later(1001));
        due("later(LOW)", -1, x.later(LOW));
        x.later(5);
        x.passed(1, 3, true);
        x.later(5);
        x.passed(2, 4, true);
        due("untell(2)", false, x.untell(2));
        due("untell(-1)", false, x.untell(-1));
        due("untell(HIGH)", false, x.untell(HIGH));
        due("before all", 27, x.fits(4));
        due("far before", 27, x.fits(LOW));
        due("the first told", 9, x.fits(5));
        due("the first still", 9, x.fits(9));
        due("both", 3, x.fits(10));
        due("far behind", 3, x.fits(HIGH));
        x.later(2);
        due("untell(0)", true, x.untell(0));
        due("untell(0) again", false, x.untell(0));
        due("both still at 11", 3, x.fits(11));
        due("the second alone", 3, x.fits(12));
        due("untell(1)", true, x.untell(1));
        due("none", 27, x.fits(12));
        x.passed(1, 7, true);
        x.untell(2);
        due("told and untold at one time", 27, x.fits(12));
        x = new BoardCrossing();
        for (int i = 1; i <= 100; i++) {
            due("later", i * 1000, x.later(1000));
        }
        due("beyond 100,000", -1, x.later(1));
        due("no further", 100000, x.later(0));
        due("the time", 100000, x.about(9));
        Check.tell(x, "board b wide 1 at 1;");
        due("the time stays", 100000, x.about(9));
        x = new BoardCrossing();
        for (int i = 0; i < 99; i++) {
            x.later(1000);
        }
        x.later(999);
        due("2 more", -1, x.later(2));
        due("1 more", 100000, x.later(1));
    }

    // 40, 41
    private static void sureAndAsk() {
        BoardCrossing x = told("water 8 by 3;board b wide 3 at 3;");
        due("not sure", -2, x.sure(1, 0));
        due("ask(0)", 1, x.ask(0, 0));
        due("ask(1)", 9, x.ask(1, 0));
        x.passed(1, 4, true);
        due("sure of 1", 1, x.sure(1, 0));
        due("ask(0)", 2, x.ask(0, 0));
        due("ask(1)", 3, x.ask(1, 0));
        x.passed(2, 4, false);
        due("sure of -1", -1, x.sure(2, 0));
        due("ask(0)", 3, x.ask(0, 0));
        due("ask(1)", 1, x.ask(1, 0));
        x.passed(3, 3, true);
        x.passed(3, 4, false);
        due("sure of 0", 0, x.sure(3, 0));
        due("ask of one that fits", 1, x.ask(0, 0));
        due("1 is left", 1, x.ask(1, 0));
        due("ask(2)", -1, x.ask(2, 0));
        due("ask(-1)", -1, x.ask(-1, 0));
        due("sure(0)", -3, x.sure(0, 0));
        due("sure(4)", -3, x.sure(4, 0));
        due("sure(LOW)", -3, x.sure(LOW, 0));
        due("before", -2, x.sure(1, -1));
        x.passed(1, 7, true);
        due("none fits", -3, x.sure(1, 0));
        due("none to ask of", -1, x.ask(0, 0));
        due("none left", -1, x.ask(1, 0));
        x = told("water 8 by 2;board b wide 3 at 3;");
        x.passed(2, 5, true);
        due("one way", 1, x.fits(0));
        x = told("water 8 by 2;board b wide 3 at 3;");
        x.passed(2, 4, true);
        due("three ways", 3, x.fits(0));
        due("2 at the most by either", 1, x.ask(0, 0));
        due("2 at the most", 2, x.ask(1, 0));
        due("two steers of three", -2, x.sure(2, 0));
    }

    // 42, 43
    private static void images() {
        BoardCrossing x = told("water 3 by 1;board b wide 9 at 0 bears 3;load k wide 4;load l wide 5;draw 9;");
        due("back(0) of nothing", -1, x.back(0));
        due("image(3)", -1, x.image(3));
        due("image(-1)", -1, x.image(-1));
        due("back(3)", -1, x.back(3));
        due("back(LOW)", -1, x.back(LOW));
        due("image(32)", -1, x.image(32));
        due("image(0)", 0, x.image(0));
        x.stow(0, 0);
        x.stow(1, 0);
        x.stroke(0, 1, true);
        x.take(0);
        due("image(2)", 1, x.image(2));
        x.take(1);
        x.passed(1, 1, true);
        due("back(1) of nothing", -1, x.back(1));
        due("back(32)", -1, x.back(32));
        due("back(-32)", -1, x.back(-32));
        due("back(34)", -1, x.back(34));
        due("acts stay then", 5, x.about(6));
        x.undo();
        due("back(0)", 0, x.back(0));
        int[] want = {0, 0, 0, 0, 0, 9, 3, 0, 0};
        for (int what = 0; what < want.length; what++) {
            due("board(0, " + what + ") back", want[what], x.board(0, what));
        }
        due("the seed back", 9, x.about(5));
        due("no acts are kept", false, x.undo());
        due("no acts are kept", false, x.redo());
        due("what is seen stays", 1, x.about(8));
        due("back(2)", 1, x.back(2));
        due("row", 1, x.board(0, 1));
        due("column", 1, x.board(0, 0));
        due("burden", 5, x.board(0, 7));
        due("strokes", 1, x.board(0, 4));
        due("heat", 1, x.board(0, 2));
        due("the seed", 304, x.about(5));
        due("acts go on", 0, x.take(1));
        due("and are undone", true, x.undo());
        due("back(2) again", 1, x.back(2));
        x.stroke(0, 0, false);
        due("kept anew", 1, x.image(2));
        x.stroke(0, 0, true);
        x.back(2);
        due("the newer one", 0, x.board(0, 1));
    }

    // 44
    private static void about() {
        BoardCrossing x = told(RIVER);
        x.later(3);
        x.passed(1, 1, true);
        x.felt(1, 1, true);
        x.stow(0, 0);
        x.stow(1, 0);
        x.stroke(0, 0, true);
        x.undo();
        x.trips(0);
        x.feed(0, 0, 0, 0, 0);
        int[] want = {2, 4, 5, 3, 30, 9, 2, 1, 2, 3, 20, 3, 4};
        for (int what = 0; what < want.length; what++) {
            due("about(" + what + ")", want[what], x.about(what));
        }
        due("about(13)", -1, x.about(13));
        due("about(-1)", -1, x.about(-1));
        due("about(LOW)", -1, x.about(LOW));
        due("NONE", -1, BoardCrossing.NONE);
    }
}
