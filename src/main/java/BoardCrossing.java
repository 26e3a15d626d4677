import java.util.Arrays;

/**
 * Ironing boards that cross a river: a river told in a text, strokes and loads that can be undone,
 * questions about what could come next, and what is known of how the first board had been steered.
 * Nothing is made behind the constructor: all rows are made once and used again.
 */
public final class BoardCrossing {
    public static final int NONE = -1;

    private static final int MOST_BYTES = 1600;
    private static final int MOST_COLUMNS = 8;
    private static final int MOST_STROKES = 6;
    private static final int MOST_CELLS = 56;
    private static final int MOST_BOARDS = 4;
    private static final int MOST_LOADS = 7;
    private static final int MOST_HEAT = 99;

    private static final int NEAR_BANK = -1;
    private static final int FAR_BANK = -2;
    private static final int NO_LOAD = -3;
    private static final int NOTHING_LIES = -2;

    private final byte[] tape;
    private int taped;
    private int faultKind;
    private int faultPlace;
    private River spare;
    private final Reader reader;
    private final Scene scene;
    private final Keeper keeper;
    private final Laid laid;
    private final Routes routes;
    private final Steam steam;
    private final Stowage stowage;
    private final Harbour harbour;
    private final Watch watch;

    public BoardCrossing() {
        tape = new byte[MOST_BYTES];
        faultPlace = NONE;
        spare = new River();
        reader = new Reader(tape, spare);
        scene = new Scene(new River());
        keeper = new Keeper(scene);
        laid = new Laid();
        routes = new Routes(scene);
        steam = new Steam(scene);
        stowage = new Stowage(scene);
        harbour = new Harbour(scene, routes);
        watch = new Watch(scene);
    }

    public int feed(int a, int b, int c, int d, int e) {
        if (taped > MOST_BYTES - 20) {
            return NONE;
        }
        putFour(a);
        putFour(b);
        putFour(c);
        putFour(d);
        putFour(e);
        return taped;
    }

    private void putFour(int four) {
        for (int shift = 24; shift >= 0; shift -= 8) {
            if (taped >= 0 && taped < tape.length) {
                tape[taped] = (byte) (four >> shift);
                taped++;
            }
        }
    }

    public int end(int n) {
        if (n < 0 || n > taped) {
            return NONE;
        }
        taped = n;
        return n;
    }

    public int river() {
        boolean clean = reader.read(tape, taped, spare);
        taped = 0;
        faultKind = reader.faultKind;
        faultPlace = reader.faultPlace;
        if (!clean) {
            return NONE;
        }
        River old = scene.river;
        scene.begin(spare);
        spare = old;
        keeper.forgetActs();
        keeper.emptyBoxes();
        laid.clear();
        watch.forget();
        return scene.river.boardCount;
    }

    public int fault(int what) {
        switch (what) {
            case 0: return faultKind;
            case 1: return faultPlace;
            default: return NONE;
        }
    }

    public int board(int board, int what) {
        if (!scene.isBoard(board)) {
            return NONE;
        }
        switch (what) {
            case 0: return scene.columnOf(board);
            case 1: return scene.rowOf(board);
            case 2: return scene.heatOf(board);
            case 3: return scene.scorchesOf(board);
            case 4: return scene.strokesOf(board);
            case 5: return scene.river.wideOf(board);
            case 6: return scene.river.bearsOf(board);
            case 7: return scene.burdenOf(board);
            case 8: return scene.loadsAt(board);
            default: return NONE;
        }
    }

    public int load(int load, int what) {
        if (!scene.isLoad(load)) {
            return NO_LOAD;
        }
        switch (what) {
            case 0: return scene.river.loadWide(load);
            case 1: return scene.placeOf(load);
            default: return NO_LOAD;
        }
    }

    public int spot(int column, int row, int what) {
        if (!scene.river.isCell(column, row)) {
            return NONE;
        }
        switch (what) {
            case 0: return scene.river.currentAt(column, row);
            case 1: return scene.river.ironAt(column, row) ? 1 : 0;
            default: return NONE;
        }
    }

    public int hotter(int board) {
        return scene.isBoard(board) ? scene.nextWarmth(board) : NONE;
    }

    public int stroke(int board, int steer, boolean out) {
        if (!scene.isBoard(board) || !isSteer(steer) || !scene.canStroke(board, out)) {
            return NONE;
        }
        keeper.beginAct();
        return scene.makeStroke(board, steer, out);
    }

    private static boolean isSteer(int steer) {
        return steer >= -1 && steer <= 1;
    }

    public int stow(int load, int board) {
        if (!scene.isLoad(load) || !scene.isBoard(board) || !scene.canPut(load, board)) {
            return NONE;
        }
        keeper.beginAct();
        scene.setPlace(load, board);
        return scene.burdenOf(board);
    }

    public int take(int load) {
        if (!scene.isLoad(load)) {
            return NONE;
        }
        int board = scene.placeOf(load);
        if (!scene.isBoard(board) || !scene.isAtBank(board)) {
            return NONE;
        }
        keeper.beginAct();
        scene.setPlace(load, scene.bankOf(board));
        return board;
    }

    public int cool(int board, int much) {
        if (!scene.isBoard(board) || much < 1 || much > 9) {
            return NONE;
        }
        keeper.beginAct();
        scene.setHeat(board, Math.max(0, scene.heatOf(board) - much));
        return scene.heatOf(board);
    }

    public boolean undo() {
        return keeper.takeBack();
    }

    public boolean redo() {
        return keeper.doAgain();
    }

    public int landings(int board) {
        return scene.isBoard(board) ? routes.landingBits(board) : NONE;
    }

    public int drift(int board) {
        return scene.isBoard(board) ? routes.unsteered(board) : NONE;
    }

    public int rows(int board) {
        return scene.isBoard(board) ? routes.countRows(board) : NONE;
    }

    public int coolest(int board, int what) {
        laid.clear();
        if (what < 0 || what > 2 || !scene.isBoard(board) || !steam.findCoolest(board)) {
            return NONE;
        }
        laid.addAll(steam.bestSteers, scene.strokesLeft(board));
        switch (what) {
            case 0: return steam.bestScorches;
            case 1: return steam.bestHeat;
            default: return steam.bestColumn;
        }
    }

    public int straight(int board, int column) {
        laid.clear();
        if (!scene.isBoard(board) || column < 0 || column >= scene.river.columns) {
            return NONE;
        }
        int steered = routes.findStraightest(board, column);
        if (steered != NONE) {
            laid.addAll(routes.steers, scene.strokesLeft(board));
        }
        return steered;
    }

    public int widest(int board, int what) {
        if (what < 0 || what > 1 || !scene.isBoard(board) || !scene.isAtBank(board)) {
            return NONE;
        }
        int set = stowage.widestSet(board);
        return what == 0 ? stowage.widthOf(set) : set;
    }

    public int trips(int board) {
        laid.clear();
        if (!scene.isBoard(board)) {
            return NONE;
        }
        int count = stowage.findTrips(board);
        if (count != NONE) {
            laid.addAll(stowage.bestBins, scene.river.loadCount);
        }
        return count;
    }

    public int stowing() {
        laid.clear();
        int count = stowage.findStowing();
        if (count != NONE) {
            laid.addAll(stowage.bestBins, scene.river.loadCount);
        }
        return count;
    }

    public int meet(int board, int other) {
        if (!scene.isBoard(board) || !scene.isBoard(other) || board == other) {
            return NONE;
        }
        return routes.strokesToMeet(board, other);
    }

    public int mooring(int what) {
        // Nothing is found for another what, so what lay there is left alone.
        if (what < 0 || what > 1) {
            return NONE;
        }
        harbour.findMooring();
        laid.clear();
        laid.addAll(harbour.bestColumns, scene.river.boardCount);
        return what == 0 ? harbour.bestCount : harbour.bestBetween;
    }

    public int guests(int board, int other) {
        laid.clear();
        if (!scene.isBoard(board) || !scene.isBoard(other) || board == other) {
            return NONE;
        }
        int rests = harbour.countRests(board, other);
        if (rests > 0) {
            laid.add(harbour.restColumn);
            laid.add(harbour.restOther);
        }
        return rests;
    }

    public int singe(int board) {
        return scene.isBoard(board) ? steam.strokesToScorch(board) : NONE;
    }

    public int odds(int board, int column, int part) {
        if (!scene.isBoard(board) || column < 0 || column >= scene.river.columns || part < 0 || part > 1) {
            return NONE;
        }
        return routes.oddsPart(board, column, part);
    }

    public int over() {
        return scene.loadsAt(FAR_BANK);
    }

    public int left() {
        return stowage.widthOf(scene.allLoads() & ~scene.loadsAt(FAR_BANK));
    }

    public int pulled() {
        int bits = 0;
        for (int b = 0; b < scene.river.boardCount; b++) {
            if (scene.river.currentAt(scene.columnOf(b), scene.rowOf(b)) > 0) {
                bits |= 1 << b;
            }
        }
        return bits;
    }

    public int hottest() {
        int best = NONE;
        int least = 0;
        for (int b = 0; b < scene.river.boardCount; b++) {
            int rest = scene.river.bearsOf(b) - scene.heatOf(b);
            if (best == NONE || rest < least) {
                best = b;
                least = rest;
            }
        }
        return best;
    }

    public int law(int n) {
        if (n < 0 || n > 99) {
            return NONE;
        }
        int count = 0;
        for (int l = 0; l < scene.river.loadCount; l++) {
            if (scene.placeOf(l) == NEAR_BANK && scene.river.loadWide(l) <= n) {
                count++;
            }
        }
        return count;
    }

    public int lies(int i) {
        return laid.numberAt(i);
    }

    public int passed(int strokes, int column, boolean is) {
        return column < 0 || column > 7 ? NONE : watch.tell(Watch.OF_COLUMN, strokes, column, is);
    }

    public int felt(int strokes, int heat, boolean is) {
        return heat < 0 || heat > MOST_HEAT ? NONE : watch.tell(Watch.OF_HEAT, strokes, heat, is);
    }

    public boolean untell(int seen) {
        return watch.takeBack(seen);
    }

    public int later(int by) {
        return watch.goOn(by);
    }

    public int fits(int k) {
        return watch.countFits(k);
    }

    public int sure(int stroke, int k) {
        return watch.sureSteer(stroke, k);
    }

    public int ask(int what, int k) {
        if (what < 0 || what > 1) {
            return NONE;
        }
        int asked = watch.strokeToAsk(k);
        return what == 0 || asked == NONE ? asked : watch.mostLeft(asked);
    }

    public int image(int box) {
        return keeper.fillBox(box) ? scene.countOver() : NONE;
    }

    public int back(int box) {
        return keeper.openBox(box) ? scene.countOver() : NONE;
    }

    public int about(int what) {
        switch (what) {
            case 0: return scene.river.boardCount;
            case 1: return scene.river.loadCount;
            case 2: return scene.river.columns;
            case 3: return scene.river.strokes;
            case 4: return scene.river.flood;
            case 5: return scene.seed();
            case 6: return keeper.undoable;
            case 7: return keeper.redoable;
            case 8: return watch.count;
            case 9: return watch.time;
            case 10: return taped;
            case 11: return scene.river.heat.units;
            case 12: return laid.count;
            default: return NONE;
        }
    }

    private static int pick(int[] list, int i) {
        return i >= 0 && i < list.length ? list[i] : 0;
    }

    private static void put(int[] list, int i, int value) {
        if (i >= 0 && i < list.length) {
            list[i] = value;
        }
    }

    /** How hot a stroke is: the told formula as a row of postfix codes; a number stands for itself. */
    private static final class Formula {
        static final int GIVEN_ROW = -1;
        static final int GIVEN_COLUMN = -2;
        static final int GIVEN_LOAD = -3;
        static final int GIVEN_WIDE = -4;
        static final int GIVEN_STROKES = -5;
        static final int GIVEN_HOT = -6;
        static final int NOT = -7;
        static final int OR = -8;
        static final int AND = -9;
        static final int LESS = -10;
        static final int MORE = -11;
        static final int SAME = -12;
        static final int PLUS = -13;
        static final int MINUS = -14;
        static final int TIMES = -15;
        static final int OVER = -16;
        static final int REST = -17;
        static final int MOST_UNITS = 30;
        /** 30 units, 29 signs between them, and 7 nots at most ahead of each unit. */
        private static final int MOST_CODES = 300;

        private final int[] codes = new int[MOST_CODES];
        private final int[] given = new int[6];
        private final int[] stack = new int[MOST_UNITS + 2];
        private int length;
        int units;

        void clear() {
            length = 0;
            units = 0;
        }

        void add(int code) {
            if (length < codes.length) {
                codes[length] = code;
                length++;
            }
        }

        boolean isTold() {
            return length > 0;
        }

        int value(int row, int column, int load, int wide, int strokes, int hot) {
            given[0] = row;
            given[1] = column;
            given[2] = load;
            given[3] = wide;
            given[4] = strokes;
            given[5] = hot;
            int top = 0;
            for (int i = 0; i < length; i++) {
                int code = pick(codes, i);
                if (code >= GIVEN_HOT) {
                    put(stack, top, code >= 0 ? code : pick(given, -1 - code));
                    top++;
                } else if (code == NOT) {
                    put(stack, top - 1, pick(stack, top - 1) == 0 ? 1 : 0);
                } else {
                    top--;
                    put(stack, top - 1, join(code, pick(stack, top - 1), pick(stack, top)));
                }
            }
            return pick(stack, 0);
        }

        private static int join(int code, int a, int b) {
            switch (code) {
                case OR: return a != 0 || b != 0 ? 1 : 0;
                case AND: return a != 0 && b != 0 ? 1 : 0;
                case LESS: return a < b ? 1 : 0;
                case MORE: return a > b ? 1 : 0;
                case SAME: return a == b ? 1 : 0;
                case PLUS: return a + b;
                case MINUS: return a - b;
                case TIMES: return a * b;
                case OVER: return b == 0 ? 0 : a / b;
                case REST: return b == 0 ? 0 : a % b;
                default: return 0;
            }
        }
    }

    /** A river as it is told; nothing of it changes while it is the one in use. */
    private static final class River {
        int columns;
        int strokes;
        int currentCount;
        int ironCount;
        int boardCount;
        int loadCount;
        int flood;
        int draw;
        final Formula heat = new Formula();
        /** NONE where no current is told, as one of 0 can be told, too. */
        private final int[] currents = new int[MOST_CELLS];
        private final int[] irons = new int[MOST_CELLS];
        private final int[] wides = new int[MOST_BOARDS];
        private final int[] starts = new int[MOST_BOARDS];
        private final int[] bears = new int[MOST_BOARDS];
        private final long[] boardNames = new long[MOST_BOARDS];
        private final int[] loadWides = new int[MOST_LOADS];
        private final long[] loadNames = new long[MOST_LOADS];

        River() {
            clear();
        }

        void clear() {
            columns = MOST_COLUMNS;
            strokes = MOST_STROKES;
            currentCount = 0;
            ironCount = 0;
            boardCount = 0;
            loadCount = 0;
            flood = 0;
            draw = 0;
            heat.clear();
            Arrays.fill(currents, NONE);
            Arrays.fill(irons, 0);
        }

        private static int cell(int column, int row) {
            return row * MOST_COLUMNS + column;
        }

        boolean isCell(int column, int row) {
            return column >= 0 && column < columns && row >= 0 && row <= strokes;
        }

        boolean hasCurrent(int column, int row) {
            return isCell(column, row) && pick(currents, cell(column, row)) != NONE;
        }

        int currentAt(int column, int row) {
            return isCell(column, row) ? Math.max(0, pick(currents, cell(column, row))) : 0;
        }

        boolean ironAt(int column, int row) {
            return isCell(column, row) && pick(irons, cell(column, row)) != 0;
        }

        void addCurrent(int force, int column, int row) {
            put(currents, cell(column, row), force);
            currentCount++;
        }

        void addIron(int column, int row) {
            put(irons, cell(column, row), 1);
            ironCount++;
        }

        void addBoard(long name, int wide, int start, int bearing) {
            if (boardCount < MOST_BOARDS) {
                boardNames[boardCount] = name;
                put(wides, boardCount, wide);
                put(starts, boardCount, start);
                put(bears, boardCount, bearing);
                boardCount++;
            }
        }

        void addLoad(long name, int wide) {
            if (loadCount < MOST_LOADS) {
                loadNames[loadCount] = name;
                put(loadWides, loadCount, wide);
                loadCount++;
            }
        }

        boolean hasBoard(long name) {
            return isAmong(boardNames, boardCount, name);
        }

        boolean hasLoad(long name) {
            return isAmong(loadNames, loadCount, name);
        }

        private static boolean isAmong(long[] names, int count, long name) {
            for (int i = 0; i < count && i < names.length; i++) {
                if (names[i] == name) {
                    return true;
                }
            }
            return false;
        }

        int wideOf(int board) {
            return pick(wides, board);
        }

        int startOf(int board) {
            return pick(starts, board);
        }

        int bearsOf(int board) {
            return pick(bears, board);
        }

        int loadWide(int load) {
            return pick(loadWides, load);
        }

        /** The column that a stroke from a cell leads to; a flood makes the current count twice. */
        int leadsTo(int column, int row, int steer, int times) {
            int current = isCell(column, row) ? Math.max(0, pick(currents, cell(column, row))) : 0;
            return Math.max(0, Math.min(columns - 1, column + steer + times * current));
        }

        int warmth(int board, int row, int column, int burden, int made, int hot) {
            if (!heat.isTold()) {
                return 1;
            }
            int more = heat.value(row, column, burden, wideOf(board), made, hot);
            return Math.max(0, Math.min(MOST_HEAT, more));
        }
    }

    /** Reads a text as a river, token by token, and stops at the first fault. */
    private static final class Reader {
        private static final int END = 0;
        private static final int WORD = 1;
        private static final int NUMBER = 2;
        private static final int SIGN = 3;
        private static final int NO_TOKEN = 4;

        /** The words that stand for themselves, each with a blank behind it, in the order of the numbers below. */
        private static final String WORDS = "water current iron board load heat flood draw by at wide bears or and not row column strokes hot ";
        private static final int LONGEST_WORD = 8;
        private static final int LONGEST_NUMBER = 4;
        private static final int WORD_COUNT = 19;
        private static final int WATER = 0;
        private static final int CURRENT = 1;
        private static final int IRON = 2;
        private static final int BOARD = 3;
        private static final int LOAD = 4;
        private static final int HEAT = 5;
        private static final int FLOOD = 6;
        private static final int DRAW = 7;
        private static final int BY = 8;
        private static final int AT = 9;
        private static final int WIDE = 10;
        private static final int BEARS = 11;
        private static final int OR = 12;
        private static final int AND = 13;
        private static final int NOT = 14;
        private static final int ROW = 15;
        private static final int COLUMN = 16;
        private static final int STROKES = 17;
        private static final int HOT = 18;

        private static final String SIGNS = ";()<>=+-*/%";
        private static final int MOST_WITHIN = 7;
        private static final int MOST_CURRENTS = 16;
        private static final int MOST_IRONS = 6;
        private static final int BEARS_UNTOLD = 20;

        private final long[] ownWords = new long[WORD_COUNT];
        private byte[] text;
        private int length;
        private int at;
        private int behind;
        private int kind;
        private int number;
        private int word;
        private long name;
        /** Which sorts of lines were told, a bit for each first word. */
        private int toldLines;
        private River river;
        int faultKind;
        int faultPlace;

        Reader(byte[] tape, River into) {
            text = tape;
            river = into;
            int w = 0;
            long code = 0;
            for (int i = 0; i < WORDS.length(); i++) {
                if (WORDS.charAt(i) != ' ') {
                    code = withLetter(code, WORDS.charAt(i));
                } else if (w < WORD_COUNT) {
                    ownWords[w] = code;
                    w++;
                    code = 0;
                }
            }
        }

        /** A word as a number, letter by letter; words of eight letters fit a long with room to spare. */
        private static long withLetter(long code, int letter) {
            return code * 27 + (letter - 'a' + 1);
        }

        boolean read(byte[] tape, int size, River into) {
            text = tape;
            length = Math.max(0, Math.min(size, tape.length));
            river = into;
            river.clear();
            toldLines = 0;
            faultKind = 0;
            faultPlace = NONE;
            behind = 0;
            advance();
            for (int n = 0; n < MOST_BYTES && kind != END; n++) {
                if (!readLine()) {
                    return false;
                }
            }
            return true;
        }

        private boolean refuse(int why) {
            faultKind = kind == NO_TOKEN ? 1 : why;
            faultPlace = at;
            return false;
        }

        // tokens

        private int byteAt(int i) {
            return i >= 0 && i < length && i < text.length ? text[i] & 255 : 0;
        }

        private static boolean isLetter(int sign) {
            return sign >= 'a' && sign <= 'z';
        }

        private static boolean isDigit(int sign) {
            return sign >= '0' && sign <= '9';
        }

        private void advance() {
            int i = behind;
            while (i < length && (byteAt(i) == ' ' || byteAt(i) == '\n')) {
                i++;
            }
            at = i;
            behind = i;
            word = NONE;
            if (i >= length) {
                kind = END;
            } else if (isLetter(byteAt(i))) {
                takeWord();
            } else if (isDigit(byteAt(i))) {
                takeNumber();
            } else {
                kind = SIGNS.indexOf((char) byteAt(i)) >= 0 ? SIGN : NO_TOKEN;
                behind = i + 1;
            }
        }

        private void takeWord() {
            name = 0;
            while (behind < length && isLetter(byteAt(behind))) {
                name = withLetter(name, byteAt(behind));
                behind++;
            }
            kind = behind - at > LONGEST_WORD ? NO_TOKEN : WORD;
            word = kind == WORD ? ownWord(name) : NONE;
        }

        private void takeNumber() {
            number = 0;
            while (behind < length && isDigit(byteAt(behind))) {
                number = number * 10 + (byteAt(behind) - '0');
                behind++;
            }
            boolean letterBehind = behind < length && isLetter(byteAt(behind));
            kind = behind - at > LONGEST_NUMBER || letterBehind ? NO_TOKEN : NUMBER;
        }

        private int ownWord(long code) {
            for (int w = 0; w < WORD_COUNT; w++) {
                if (ownWords[w] == code) {
                    return w;
                }
            }
            return NONE;
        }

        private boolean isWord(int which) {
            return kind == WORD && word == which;
        }

        private boolean isSign(char sign) {
            return kind == SIGN && byteAt(at) == sign;
        }

        private boolean passWord(int which) {
            if (!isWord(which)) {
                return refuse(2);
            }
            advance();
            return true;
        }

        private boolean passEndOfLine() {
            if (!isSign(';')) {
                return refuse(2);
            }
            advance();
            return true;
        }

        /** Looks at a number without passing it, so that more can be asked of it at its place. */
        private boolean isNumber(int low, int high) {
            if (kind != NUMBER) {
                return refuse(2);
            }
            return number >= low && number <= high || refuse(4);
        }

        /** Passes a number: the number, or NONE at a fault. */
        private int passNumber(int low, int high) {
            if (!isNumber(low, high)) {
                return NONE;
            }
            int passed = number;
            advance();
            return passed;
        }

        // lines

        private boolean readLine() {
            int first = kind == WORD ? word : NONE;
            if (!mayBegin(first)) {
                return refuse(2);
            }
            toldLines |= 1 << first;
            advance();
            switch (first) {
                case WATER: return readWater();
                case CURRENT: return readCurrent();
                case IRON: return readIron();
                case BOARD: return readBoard();
                case LOAD: return readLoad();
                case HEAT: return readAny(0) && passEndOfLine();
                case FLOOD: return readFlood();
                default: return readDraw();
            }
        }

        private boolean mayBegin(int first) {
            switch (first) {
                case WATER: return toldLines == 0;
                case CURRENT: return river.currentCount < MOST_CURRENTS;
                case IRON: return river.ironCount < MOST_IRONS;
                case BOARD: return river.boardCount < MOST_BOARDS;
                case LOAD: return river.loadCount < MOST_LOADS;
                case HEAT:
                case FLOOD:
                case DRAW: return (toldLines >> first & 1) == 0;
                default: return false;
            }
        }

        private boolean readWater() {
            int columns = passNumber(1, MOST_COLUMNS);
            if (columns == NONE || !passWord(BY)) {
                return false;
            }
            int strokes = passNumber(1, MOST_STROKES);
            if (strokes == NONE) {
                return false;
            }
            river.columns = columns;
            river.strokes = strokes;
            return passEndOfLine();
        }

        private boolean readCurrent() {
            int force = passNumber(0, 7);
            if (force == NONE || !passWord(AT)) {
                return false;
            }
            int column = passNumber(0, river.columns - 1);
            if (column == NONE || !isNumber(0, river.strokes - 1)) {
                return false;
            }
            if (river.hasCurrent(column, number)) {
                return refuse(3);
            }
            river.addCurrent(force, column, number);
            advance();
            return passEndOfLine();
        }

        private boolean readIron() {
            int column = passNumber(0, river.columns - 1);
            if (column == NONE || !isNumber(1, river.strokes - 1)) {
                return false;
            }
            if (river.ironAt(column, number)) {
                return refuse(3);
            }
            river.addIron(column, number);
            advance();
            return passEndOfLine();
        }

        private boolean isNewName(boolean ofBoard) {
            if (kind != WORD || word != NONE) {
                return refuse(2);
            }
            boolean told = ofBoard ? river.hasBoard(name) : river.hasLoad(name);
            return !told || refuse(3);
        }

        private boolean readBoard() {
            if (!isNewName(true)) {
                return false;
            }
            long ownName = name;
            advance();
            int wide = passWord(WIDE) ? passNumber(0, 99) : NONE;
            if (wide == NONE || !passWord(AT)) {
                return false;
            }
            int start = passNumber(0, river.columns - 1);
            int bearing = BEARS_UNTOLD;
            if (start != NONE && isWord(BEARS)) {
                advance();
                bearing = passNumber(0, 99);
            }
            if (start == NONE || bearing == NONE) {
                return false;
            }
            river.addBoard(ownName, wide, start, bearing);
            return passEndOfLine();
        }

        private boolean readLoad() {
            if (!isNewName(false)) {
                return false;
            }
            long ownName = name;
            advance();
            int wide = passWord(WIDE) ? passNumber(0, 99) : NONE;
            if (wide == NONE) {
                return false;
            }
            river.addLoad(ownName, wide);
            return passEndOfLine();
        }

        private boolean readFlood() {
            int flood = passNumber(0, 100);
            if (flood == NONE) {
                return false;
            }
            river.flood = flood;
            return passEndOfLine();
        }

        private boolean readDraw() {
            int draw = passNumber(0, 999);
            if (draw == NONE) {
                return false;
            }
            river.draw = draw;
            return passEndOfLine();
        }

        // the formula; within: how many units ( e ) and ones behind not are open around

        private boolean readAny(int within) {
            if (!readBoth(within)) {
                return false;
            }
            for (int n = 0; n < MOST_BYTES && isWord(OR); n++) {
                advance();
                if (!readBoth(within)) {
                    return false;
                }
                river.heat.add(Formula.OR);
            }
            return true;
        }

        private boolean readBoth(int within) {
            if (!readOne(within)) {
                return false;
            }
            for (int n = 0; n < MOST_BYTES && isWord(AND); n++) {
                advance();
                if (!readOne(within)) {
                    return false;
                }
                river.heat.add(Formula.AND);
            }
            return true;
        }

        private boolean readOne(int within) {
            if (isWord(NOT)) {
                return readNot(within);
            }
            if (!readSum(within)) {
                return false;
            }
            int relation = isSign('<') ? Formula.LESS : isSign('>') ? Formula.MORE : isSign('=') ? Formula.SAME : 0;
            if (relation == 0) {
                return true;
            }
            advance();
            if (!readSum(within)) {
                return false;
            }
            river.heat.add(relation);
            return true;
        }

        private boolean readNot(int within) {
            if (within >= MOST_WITHIN) {
                return refuse(2);
            }
            advance();
            if (!readOne(within + 1)) {
                return false;
            }
            river.heat.add(Formula.NOT);
            return true;
        }

        private boolean readSum(int within) {
            if (!readTerm(within)) {
                return false;
            }
            for (int n = 0; n < MOST_BYTES && (isSign('+') || isSign('-')); n++) {
                int code = isSign('+') ? Formula.PLUS : Formula.MINUS;
                advance();
                if (!readTerm(within)) {
                    return false;
                }
                river.heat.add(code);
            }
            return true;
        }

        private boolean readTerm(int within) {
            if (!readUnit(within)) {
                return false;
            }
            for (int n = 0; n < MOST_BYTES && (isSign('*') || isSign('/') || isSign('%')); n++) {
                int code = isSign('*') ? Formula.TIMES : isSign('/') ? Formula.OVER : Formula.REST;
                advance();
                if (!readUnit(within)) {
                    return false;
                }
                river.heat.add(code);
            }
            return true;
        }

        private boolean readUnit(int within) {
            boolean opens = isSign('(');
            int given = givenBy(kind == WORD ? word : NONE);
            if (!opens && kind != NUMBER && given == 0) {
                return refuse(2);
            }
            if (river.heat.units >= Formula.MOST_UNITS || opens && within >= MOST_WITHIN) {
                return refuse(2);
            }
            river.heat.units++;
            if (opens) {
                return readInner(within);
            }
            river.heat.add(given == 0 ? number : given);
            advance();
            return true;
        }

        private boolean readInner(int within) {
            advance();
            if (!readAny(within + 1)) {
                return false;
            }
            if (!isSign(')')) {
                return refuse(2);
            }
            advance();
            return true;
        }

        private static int givenBy(int word) {
            switch (word) {
                case ROW: return Formula.GIVEN_ROW;
                case COLUMN: return Formula.GIVEN_COLUMN;
                case LOAD: return Formula.GIVEN_LOAD;
                case WIDE: return Formula.GIVEN_WIDE;
                case STROKES: return Formula.GIVEN_STROKES;
                case HOT: return Formula.GIVEN_HOT;
                default: return 0;
            }
        }
    }

    /** What acts change: where boards and loads are, heat, scorches, strokes and the seed. */
    private static final class Scene {
        /** Five numbers for each board, one for each load, the seed. */
        static final int SIZE = 28;
        private static final int PER_BOARD = 5;
        private static final int COLUMN = 0;
        private static final int ROW = 1;
        private static final int HEAT = 2;
        private static final int SCORCHES = 3;
        private static final int STROKES = 4;
        private static final int FIRST_LOAD = 20;
        private static final int SEED = 27;
        private static final int MOST_SCORCHES = 999;

        final int[] now = new int[SIZE];
        River river;

        Scene(River first) {
            river = first;
            begin(first);
        }

        void begin(River told) {
            river = told;
            Arrays.fill(now, 0);
            for (int b = 0; b < told.boardCount; b++) {
                set(b, COLUMN, told.startOf(b));
            }
            for (int l = 0; l < MOST_LOADS; l++) {
                setPlace(l, NEAR_BANK);
            }
            put(now, SEED, told.draw);
        }

        boolean isBoard(int board) {
            return board >= 0 && board < river.boardCount;
        }

        boolean isLoad(int load) {
            return load >= 0 && load < river.loadCount;
        }

        private int get(int board, int what) {
            return pick(now, board * PER_BOARD + what);
        }

        private void set(int board, int what, int value) {
            put(now, board * PER_BOARD + what, value);
        }

        int columnOf(int board) {
            return get(board, COLUMN);
        }

        int rowOf(int board) {
            return get(board, ROW);
        }

        int heatOf(int board) {
            return get(board, HEAT);
        }

        void setHeat(int board, int heat) {
            set(board, HEAT, heat);
        }

        int scorchesOf(int board) {
            return get(board, SCORCHES);
        }

        int strokesOf(int board) {
            return get(board, STROKES);
        }

        int strokesLeft(int board) {
            return river.strokes - rowOf(board);
        }

        int placeOf(int load) {
            return pick(now, FIRST_LOAD + load);
        }

        void setPlace(int load, int place) {
            put(now, FIRST_LOAD + load, place);
        }

        int seed() {
            return pick(now, SEED);
        }

        int allLoads() {
            return (1 << river.loadCount) - 1;
        }

        /** The loads on a board or on a bank, as bits. */
        int loadsAt(int place) {
            int bits = 0;
            for (int l = 0; l < river.loadCount; l++) {
                if (placeOf(l) == place) {
                    bits |= 1 << l;
                }
            }
            return bits;
        }

        int countOver() {
            return Integer.bitCount(loadsAt(FAR_BANK));
        }

        int burdenOf(int board) {
            int wide = 0;
            for (int l = 0; l < river.loadCount; l++) {
                if (placeOf(l) == board) {
                    wide += river.loadWide(l);
                }
            }
            return wide;
        }

        boolean isAtBank(int board) {
            return rowOf(board) == 0 || rowOf(board) == river.strokes;
        }

        int bankOf(int board) {
            return rowOf(board) == 0 ? NEAR_BANK : FAR_BANK;
        }

        boolean canPut(int load, int board) {
            return isAtBank(board) && placeOf(load) == bankOf(board)
                && burdenOf(board) + river.loadWide(load) <= river.wideOf(board);
        }

        boolean canStroke(int board, boolean out) {
            return out ? rowOf(board) < river.strokes : rowOf(board) > 0;
        }

        int nextWarmth(int board) {
            return river.warmth(board, rowOf(board), columnOf(board), burdenOf(board), strokesOf(board), heatOf(board));
        }

        /** Makes a stroke: 1 if it hisses, 2 if it is scorched, together. */
        int makeStroke(int board, int steer, boolean out) {
            put(now, SEED, (seed() * 137 + 71) % 1000);
            int times = seed() % 100 < river.flood ? 2 : 1;
            int warmer = Math.min(MOST_HEAT, heatOf(board) + nextWarmth(board));
            int column = river.leadsTo(columnOf(board), rowOf(board), steer, times);
            int row = rowOf(board) + (out ? 1 : -1);
            boolean hisses = river.ironAt(column, row);
            boolean scorched = warmer > river.bearsOf(board);
            if (!hisses) {
                set(board, COLUMN, column);
                set(board, ROW, row);
            }
            if (scorched) {
                set(board, SCORCHES, Math.min(MOST_SCORCHES, scorchesOf(board) + 1));
            }
            set(board, HEAT, scorched ? 0 : warmer);
            set(board, STROKES, strokesOf(board) + 1);
            return (hisses ? 1 : 0) + (scorched ? 2 : 0);
        }
    }

    /** Keeps scenes: those between acts, for undo and redo, and those in boxes. */
    private static final class Keeper {
        private static final int MOST_ACTS = 40;
        /** One more than acts: the scenes ahead of, between and behind them, as a ring. */
        private static final int RING = MOST_ACTS + 1;
        private static final int BOXES = 3;

        private final Scene scene;
        private final int[] store = new int[(RING + BOXES) * Scene.SIZE];
        private int filledBoxes;
        private int slot;
        int undoable;
        int redoable;

        Keeper(Scene scene) {
            this.scene = scene;
        }

        private void keep(int where) {
            for (int i = 0; i < Scene.SIZE; i++) {
                put(store, where * Scene.SIZE + i, pick(scene.now, i));
            }
        }

        private void bring(int where) {
            for (int i = 0; i < Scene.SIZE; i++) {
                put(scene.now, i, pick(store, where * Scene.SIZE + i));
            }
        }

        void forgetActs() {
            slot = 0;
            undoable = 0;
            redoable = 0;
        }

        void beginAct() {
            keep(slot);
            slot = (slot + 1) % RING;
            undoable = Math.min(MOST_ACTS, undoable + 1);
            redoable = 0;
        }

        boolean takeBack() {
            if (undoable <= 0) {
                return false;
            }
            keep(slot);
            slot = (slot + RING - 1) % RING;
            bring(slot);
            undoable--;
            redoable++;
            return true;
        }

        boolean doAgain() {
            if (redoable <= 0) {
                return false;
            }
            keep(slot);
            slot = (slot + 1) % RING;
            bring(slot);
            undoable++;
            redoable--;
            return true;
        }

        void emptyBoxes() {
            filledBoxes = 0;
        }

        boolean fillBox(int box) {
            if (box < 0 || box >= BOXES) {
                return false;
            }
            keep(RING + box);
            filledBoxes |= 1 << box;
            return true;
        }

        boolean openBox(int box) {
            if (box < 0 || box >= BOXES || (filledBoxes >> box & 1) == 0) {
                return false;
            }
            bring(RING + box);
            forgetActs();
            return true;
        }
    }

    /** The numbers that lie there behind a question. */
    private static final class Laid {
        private final int[] numbers = new int[MOST_LOADS];
        int count;

        void clear() {
            count = 0;
        }

        void add(int number) {
            if (count < numbers.length) {
                numbers[count] = number;
                count++;
            }
        }

        void addAll(int[] list, int size) {
            for (int i = 0; i < size && i < list.length; i++) {
                add(list[i]);
            }
        }

        int numberAt(int i) {
            return i >= 0 && i < count ? pick(numbers, i) : NOTHING_LIES;
        }
    }

    /** Where a board can come to, whatever the heat. */
    private static final class Routes {
        private static final int NEVER = 99;
        private static final int MOST_STROKES_OF_ODDS = 4;

        private final Scene scene;
        /** For each cell how many ways, or how many steers, there are from it to the far bank. */
        private final int[] table = new int[MOST_CELLS];
        private int[] weights = new int[MOST_COLUMNS];
        private int[] nextWeights = new int[MOST_COLUMNS];
        final int[] steers = new int[MOST_STROKES];

        Routes(Scene scene) {
            this.scene = scene;
        }

        /** The columns of the next row, as bits, that strokes lead to without a hiss. */
        private int spread(int columns, int row) {
            River river = scene.river;
            int bits = 0;
            for (int c = 0; c < river.columns; c++) {
                for (int steer = -1; steer <= 1 && (columns >> c & 1) != 0; steer++) {
                    int to = river.leadsTo(c, row, steer, 1);
                    if (!river.ironAt(to, row + 1)) {
                        bits |= 1 << to;
                    }
                }
            }
            return bits;
        }

        int landingBits(int board) {
            int columns = 1 << scene.columnOf(board);
            for (int row = scene.rowOf(board); row < scene.river.strokes; row++) {
                columns = spread(columns, row);
            }
            return columns;
        }

        int unsteered(int board) {
            River river = scene.river;
            int column = scene.columnOf(board);
            for (int row = scene.rowOf(board); row < river.strokes; row++) {
                column = river.leadsTo(column, row, 0, 1);
                if (river.ironAt(column, row + 1)) {
                    return NONE;
                }
            }
            return column;
        }

        private static int cell(int column, int row) {
            return row * MOST_COLUMNS + column;
        }

        int countRows(int board) {
            River river = scene.river;
            for (int c = 0; c < river.columns; c++) {
                put(table, cell(c, river.strokes), 1);
            }
            for (int row = river.strokes - 1; row >= scene.rowOf(board); row--) {
                for (int c = 0; c < river.columns; c++) {
                    put(table, cell(c, row), waysFrom(c, row));
                }
            }
            return pick(table, cell(scene.columnOf(board), scene.rowOf(board)));
        }

        private int waysFrom(int column, int row) {
            int ways = 0;
            for (int steer = -1; steer <= 1; steer++) {
                int to = scene.river.leadsTo(column, row, steer, 1);
                if (!scene.river.ironAt(to, row + 1)) {
                    ways += pick(table, cell(to, row + 1));
                }
            }
            return ways;
        }

        /** How many steers the straightest row to a landing has; NONE if it is none. */
        int findStraightest(int board, int landing) {
            River river = scene.river;
            for (int c = 0; c < river.columns; c++) {
                put(table, cell(c, river.strokes), c == landing ? 0 : NEVER);
            }
            for (int row = river.strokes - 1; row >= scene.rowOf(board); row--) {
                for (int c = 0; c < river.columns; c++) {
                    put(table, cell(c, row), fewestFrom(c, row));
                }
            }
            int fewest = pick(table, cell(scene.columnOf(board), scene.rowOf(board)));
            if (fewest >= NEVER) {
                return NONE;
            }
            followTable(scene.columnOf(board), scene.rowOf(board));
            return fewest;
        }

        private int fewestFrom(int column, int row) {
            int fewest = NEVER;
            for (int steer = -1; steer <= 1; steer++) {
                fewest = Math.min(fewest, fewestBy(column, row, steer));
            }
            return fewest;
        }

        private int fewestBy(int column, int row, int steer) {
            int to = scene.river.leadsTo(column, row, steer, 1);
            return scene.river.ironAt(to, row + 1) ? NEVER : Math.abs(steer) + pick(table, cell(to, row + 1));
        }

        private void followTable(int from, int fromRow) {
            int column = from;
            int steered = 0;
            for (int row = fromRow; row < scene.river.strokes; row++) {
                int due = pick(table, cell(column, row));
                int steer = -1;
                while (steer < 1 && fewestBy(column, row, steer) != due) {
                    steer++;
                }
                put(steers, steered, steer);
                steered++;
                column = scene.river.leadsTo(column, row, steer, 1);
            }
        }

        int strokesToMeet(int board, int other) {
            int row = scene.rowOf(board);
            if (row != scene.rowOf(other)) {
                return NONE;
            }
            int ones = 1 << scene.columnOf(board);
            int others = 1 << scene.columnOf(other);
            for (int made = 0; row + made <= scene.river.strokes; made++) {
                if (((ones << 1 | ones >> 1) & others) != 0) {
                    return made;
                }
                if (row + made < scene.river.strokes) {
                    ones = spread(ones, row + made);
                    others = spread(others, row + made);
                }
            }
            return NONE;
        }

        /** The upper (0) or lower (1) part of the odds of a landing. */
        int oddsPart(int board, int column, int part) {
            int left = scene.strokesLeft(board);
            if (left > MOST_STROKES_OF_ODDS) {
                return NONE;
            }
            Arrays.fill(weights, 0);
            put(weights, scene.columnOf(board), 1);
            int whole = 1;
            for (int row = scene.rowOf(board); row < scene.river.strokes; row++) {
                flowOn(row);
                whole *= 100;
            }
            int upper = pick(weights, column);
            int shared = commonPart(upper, whole);
            return (part == 0 ? upper : whole) / Math.max(1, shared);
        }

        private void flowOn(int row) {
            River river = scene.river;
            Arrays.fill(nextWeights, 0);
            for (int c = 0; c < river.columns; c++) {
                int weight = pick(weights, c);
                flowTo(river.leadsTo(c, row, 0, 1), row + 1, weight * (100 - river.flood));
                flowTo(river.leadsTo(c, row, 0, 2), row + 1, weight * river.flood);
            }
            int[] old = weights;
            weights = nextWeights;
            nextWeights = old;
        }

        private void flowTo(int column, int row, int weight) {
            if (!scene.river.ironAt(column, row)) {
                put(nextWeights, column, pick(nextWeights, column) + weight);
            }
        }

        private static int commonPart(int one, int other) {
            int a = one;
            int b = other;
            for (int n = 0; n < 100 && b != 0; n++) {
                int rest = a % b;
                a = b;
                b = rest;
            }
            return a;
        }
    }

    /** What heat does on the way out. */
    private static final class Steam {
        private final Scene scene;
        private final int[] steers = new int[MOST_STROKES];
        private int searched;
        private int burden;
        private boolean found;
        final int[] bestSteers = new int[MOST_STROKES];
        int bestScorches;
        int bestHeat;
        int bestColumn;

        Steam(Scene scene) {
            this.scene = scene;
        }

        /** Finds the coolest row of a board: whether there is one. */
        boolean findCoolest(int board) {
            searched = board;
            burden = scene.burdenOf(board);
            found = false;
            goOn(0, scene.columnOf(board), scene.heatOf(board), 0);
            return found;
        }

        private void goOn(int made, int column, int heat, int scorches) {
            if (found && scorches > bestScorches) {
                return;
            }
            if (made >= scene.strokesLeft(searched)) {
                noteIfCooler(column, heat, scorches);
                return;
            }
            River river = scene.river;
            int row = scene.rowOf(searched) + made;
            int more = river.warmth(searched, row, column, burden, scene.strokesOf(searched) + made, heat);
            int warmer = Math.min(MOST_HEAT, heat + more);
            boolean scorched = warmer > river.bearsOf(searched);
            for (int steer = -1; steer <= 1; steer++) {
                int to = river.leadsTo(column, row, steer, 1);
                if (!river.ironAt(to, row + 1)) {
                    put(steers, made, steer);
                    goOn(made + 1, to, scorched ? 0 : warmer, scorched ? scorches + 1 : scorches);
                }
            }
        }

        private void noteIfCooler(int column, int heat, int scorches) {
            if (found && (scorches > bestScorches || scorches == bestScorches && heat >= bestHeat)) {
                return;
            }
            found = true;
            bestScorches = scorches;
            bestHeat = heat;
            bestColumn = column;
            for (int i = 0; i < MOST_STROKES; i++) {
                put(bestSteers, i, pick(steers, i));
            }
        }

        int strokesToScorch(int board) {
            River river = scene.river;
            int load = scene.burdenOf(board);
            int column = scene.columnOf(board);
            int row = scene.rowOf(board);
            int heat = scene.heatOf(board);
            for (int made = 0; row + made < river.strokes; made++) {
                int to = river.leadsTo(column, row + made, 0, 1);
                if (river.ironAt(to, row + made + 1)) {
                    return NONE;
                }
                heat += river.warmth(board, row + made, column, load, scene.strokesOf(board) + made, heat);
                heat = Math.min(MOST_HEAT, heat);
                if (heat > river.bearsOf(board)) {
                    return made + 1;
                }
                column = to;
            }
            return NONE;
        }
    }

    /** How loads lie flat: on one board, in trips, on all boards at once. */
    private static final class Stowage {
        private static final int TOO_MANY = MOST_LOADS + 1;

        private final Scene scene;
        private final int[] room = new int[MOST_LOADS];
        private final int[] held = new int[MOST_LOADS];
        private final int[] bins = new int[MOST_LOADS];
        private int binCount;
        /** Whether a bin is opened only when all ahead of it are open. */
        private boolean inTurn;
        private int fewest;
        final int[] bestBins = new int[MOST_LOADS];

        Stowage(Scene scene) {
            this.scene = scene;
        }

        int widthOf(int set) {
            int wide = 0;
            for (int l = 0; l < scene.river.loadCount; l++) {
                if ((set >> l & 1) != 0) {
                    wide += scene.river.loadWide(l);
                }
            }
            return wide;
        }

        int widestSet(int board) {
            int lying = scene.loadsAt(scene.bankOf(board));
            int space = scene.river.wideOf(board) - scene.burdenOf(board);
            int best = 0;
            int bestWidth = 0;
            for (int set = 1; set <= scene.allLoads(); set++) {
                int wide = (set & ~lying) == 0 ? widthOf(set) : 0;
                if (wide <= space && wide > bestWidth) {
                    best = set;
                    bestWidth = wide;
                }
            }
            return best;
        }

        int findTrips(int board) {
            binCount = MOST_LOADS;
            inTurn = true;
            Arrays.fill(room, scene.river.wideOf(board));
            return findFewest();
        }

        int findStowing() {
            binCount = scene.river.boardCount;
            inTurn = false;
            for (int b = 0; b < binCount; b++) {
                int space = scene.river.wideOf(b) - scene.burdenOf(b);
                put(room, b, scene.rowOf(b) == 0 ? space : NONE);
            }
            return findFewest();
        }

        private int findFewest() {
            for (int l = 0; l < scene.river.loadCount; l++) {
                if (scene.placeOf(l) == NEAR_BANK && !hasRoomFor(scene.river.loadWide(l))) {
                    return NONE;
                }
            }
            fewest = TOO_MANY;
            Arrays.fill(held, 0);
            place(0, 0);
            return fewest == TOO_MANY ? NONE : fewest;
        }

        private boolean hasRoomFor(int wide) {
            for (int bin = 0; bin < binCount; bin++) {
                if (wide <= pick(room, bin)) {
                    return true;
                }
            }
            return false;
        }

        /** Goes through all ways in their order, so that the first of the best ones stays. */
        private void place(int load, int used) {
            if (used >= fewest) {
                return;
            }
            if (load >= scene.river.loadCount) {
                fewest = used;
                System.arraycopy(bins, 0, bestBins, 0, MOST_LOADS);
                return;
            }
            if (scene.placeOf(load) != NEAR_BANK) {
                put(bins, load, NONE);
                place(load + 1, used);
                return;
            }
            for (int bin = 0; bin < binCount; bin++) {
                boolean fresh = pick(held, bin) == 0;
                if (scene.river.loadWide(load) <= pick(room, bin)) {
                    placeIn(bin, load, fresh ? used + 1 : used);
                }
                if (fresh && inTurn) {
                    return;
                }
            }
        }

        private void placeIn(int bin, int load, int used) {
            int wide = scene.river.loadWide(load);
            put(bins, load, bin);
            put(held, bin, pick(held, bin) + 1);
            put(room, bin, pick(room, bin) - wide);
            place(load + 1, used);
            put(room, bin, pick(room, bin) + wide);
            put(held, bin, pick(held, bin) - 1);
        }
    }

    /** Who lands where: all at unlike landings, or two who want one. */
    private static final class Harbour {
        private static final int ALONE = 9;
        private static final int SHARED = 3;

        private final Scene scene;
        private final Routes routes;
        private final int[] landings = new int[MOST_BOARDS];
        private final int[] columns = new int[MOST_BOARDS];
        final int[] bestColumns = new int[MOST_BOARDS];
        int bestCount;
        int bestBetween;
        int restColumn;
        int restOther;

        Harbour(Scene scene, Routes routes) {
            this.scene = scene;
            this.routes = routes;
        }

        void findMooring() {
            for (int b = 0; b < scene.river.boardCount; b++) {
                put(landings, b, scene.rowOf(b) == 0 ? routes.landingBits(b) : 0);
            }
            bestCount = NONE;
            bestBetween = 0;
            moor(0, 0, 0, 0);
        }

        /** Goes through all ways in their order, so that the first of the best ones stays. */
        private void moor(int board, int taken, int count, int between) {
            int most = count + scene.river.boardCount - board;
            if (most < bestCount || most == bestCount && between >= bestBetween) {
                return;
            }
            if (board >= scene.river.boardCount) {
                bestCount = count;
                bestBetween = between;
                System.arraycopy(columns, 0, bestColumns, 0, MOST_BOARDS);
                return;
            }
            int free = pick(landings, board) & ~taken;
            for (int c = 0; c < scene.river.columns; c++) {
                if ((free >> c & 1) != 0) {
                    put(columns, board, c);
                    int further = Math.abs(c - scene.columnOf(board));
                    moor(board + 1, taken | 1 << c, count + 1, between + further);
                }
            }
            put(columns, board, NONE);
            moor(board + 1, taken, count, between);
        }

        /** How many rests two boards have; NONE if one has no landing. */
        int countRests(int board, int other) {
            int ones = routes.landingBits(board);
            int others = routes.landingBits(other);
            if (ones == 0 || others == 0) {
                return NONE;
            }
            int from = scene.columnOf(board);
            int otherFrom = scene.columnOf(other);
            int rests = 0;
            for (int c = 0; c < MOST_COLUMNS; c++) {
                for (int d = 0; d < MOST_COLUMNS; d++) {
                    boolean can = (ones >> c & 1) != 0 && (others >> d & 1) != 0;
                    if (can && staysBest(ones, from, c, d) && staysBest(others, otherFrom, d, c)) {
                        restColumn = rests == 0 ? c : restColumn;
                        restOther = rests == 0 ? d : restOther;
                        rests++;
                    }
                }
            }
            return rests;
        }

        private static boolean staysBest(int landings, int from, int own, int others) {
            for (int c = 0; c < MOST_COLUMNS; c++) {
                if ((landings >> c & 1) != 0 && gain(c, others, from) > gain(own, others, from)) {
                    return false;
                }
            }
            return true;
        }

        private static int gain(int own, int others, int from) {
            return (own == others ? SHARED : ALONE) - Math.abs(own - from);
        }
    }

    /** What is seen of the first board, and which steers fit it. */
    private static final class Watch {
        static final int OF_COLUMN = 0;
        static final int OF_HEAT = 1;
        private static final int MOST_SEEN = 30;
        private static final int LAST_TIME = 100000;
        /** What is seen, six numbers each: sort, strokes, how much, whether it is so, told, untold. */
        private static final int PER_SEEN = 6;
        private static final int SORT = 0;
        private static final int STROKES = 1;
        private static final int MUCH = 2;
        private static final int IS_SO = 3;
        private static final int TOLD = 4;
        private static final int UNTOLD = 5;
        /** A tree of all steers: the sons of node n are 3n+1, 3n+2, 3n+3. */
        private static final int NODES = 1093;

        private final Scene scene;
        private final int[] seen = new int[MOST_SEEN * PER_SEEN];
        private final int[] columns = new int[NODES];
        private final int[] rows = new int[NODES];
        private final int[] heats = new int[NODES];
        private boolean grown;
        /** By sort and strokes: from least to most is what all that counts leaves. */
        private final int[] least = new int[2 * (MOST_STROKES + 1)];
        private final int[] most = new int[2 * (MOST_STROKES + 1)];
        private final int[] tally = new int[3 * (MOST_STROKES + 1)];
        int count;
        int time;

        Watch(Scene scene) {
            this.scene = scene;
        }

        void forget() {
            count = 0;
            grown = false;
        }

        private int get(int number, int what) {
            return pick(seen, number * PER_SEEN + what);
        }

        private void set(int number, int what, int value) {
            put(seen, number * PER_SEEN + what, value);
        }

        int tell(int sort, int strokes, int much, boolean is) {
            boolean can = strokes >= 1 && strokes <= scene.river.strokes && scene.river.boardCount > 0;
            if (!can || count >= MOST_SEEN) {
                return NONE;
            }
            set(count, SORT, sort);
            set(count, STROKES, strokes);
            set(count, MUCH, much);
            set(count, IS_SO, is ? 1 : 0);
            set(count, TOLD, time);
            set(count, UNTOLD, NONE);
            count++;
            return count - 1;
        }

        boolean takeBack(int number) {
            if (number < 0 || number >= count || get(number, UNTOLD) != NONE) {
                return false;
            }
            set(number, UNTOLD, time);
            return true;
        }

        int goOn(int by) {
            if (by < 0 || by > 1000 || time + by > LAST_TIME) {
                return NONE;
            }
            time += by;
            return time;
        }

        /** The tree depends on the river alone, so it is grown once for each. */
        private void grow() {
            if (grown) {
                return;
            }
            grown = true;
            put(columns, 0, scene.river.startOf(0));
            put(rows, 0, 0);
            put(heats, 0, 0);
            int first = 0;
            int size = 1;
            for (int made = 0; made < scene.river.strokes; made++) {
                for (int node = first; node < first + size; node++) {
                    branch(node, made);
                }
                first += size;
                size *= 3;
            }
        }

        private void branch(int node, int made) {
            River river = scene.river;
            int column = pick(columns, node);
            int row = pick(rows, node);
            int heat = pick(heats, node);
            int warmer = Math.min(MOST_HEAT, heat + river.warmth(0, row, column, 0, made, heat));
            for (int steer = -1; steer <= 1; steer++) {
                int son = 3 * node + 2 + steer;
                int to = river.leadsTo(column, row, steer, 1);
                boolean hisses = river.ironAt(to, row + 1);
                put(columns, son, hisses ? column : to);
                put(rows, son, hisses ? row : row + 1);
                put(heats, son, warmer > river.bearsOf(0) ? 0 : warmer);
            }
        }

        private boolean countsAt(int number, int k) {
            int untold = get(number, UNTOLD);
            return get(number, TOLD) <= k && (untold == NONE || untold > k);
        }

        private static int boundOf(int sort, int strokes) {
            return sort * (MOST_STROKES + 1) + strokes;
        }

        private void narrow(int k) {
            Arrays.fill(least, 0);
            Arrays.fill(most, MOST_HEAT);
            for (int n = 0; n < count; n++) {
                int bound = boundOf(get(n, SORT), get(n, STROKES));
                int much = get(n, MUCH);
                if (!countsAt(n, k)) {
                    continue;
                }
                if (get(n, IS_SO) != 0) {
                    put(least, bound, Math.max(pick(least, bound), much));
                } else {
                    put(most, bound, Math.min(pick(most, bound), much - 1));
                }
            }
        }

        private boolean isWithin(int sort, int strokes, int value) {
            int bound = boundOf(sort, strokes);
            return value >= pick(least, bound) && value <= pick(most, bound);
        }

        int countFits(int k) {
            Arrays.fill(tally, 0);
            if (scene.river.boardCount == 0) {
                return 0;
            }
            grow();
            narrow(k);
            return sift(0, 0);
        }

        private static int tallyOf(int stroke, int steer) {
            return stroke * 3 + steer + 1;
        }

        /** How many fit behind a node, counted for the steer of each stroke, too. */
        private int sift(int node, int made) {
            if (made >= scene.river.strokes) {
                return 1;
            }
            int fit = 0;
            for (int steer = -1; steer <= 1; steer++) {
                int son = 3 * node + 2 + steer;
                if (isWithin(OF_COLUMN, made + 1, pick(columns, son)) && isWithin(OF_HEAT, made + 1, pick(heats, son))) {
                    int more = sift(son, made + 1);
                    int entry = tallyOf(made + 1, steer);
                    put(tally, entry, pick(tally, entry) + more);
                    fit += more;
                }
            }
            return fit;
        }

        int sureSteer(int stroke, int k) {
            int fit = stroke >= 1 && stroke <= scene.river.strokes ? countFits(k) : 0;
            if (fit == 0) {
                return -3;
            }
            for (int steer = -1; steer <= 1; steer++) {
                if (pick(tally, tallyOf(stroke, steer)) == fit) {
                    return steer;
                }
            }
            return -2;
        }

        /** How many are left at the most behind knowing a stroke's steer, by the latest count. */
        int mostLeft(int stroke) {
            int left = 0;
            for (int steer = -1; steer <= 1; steer++) {
                left = Math.max(left, pick(tally, tallyOf(stroke, steer)));
            }
            return left;
        }

        int strokeToAsk(int k) {
            if (countFits(k) == 0) {
                return NONE;
            }
            int best = 1;
            for (int stroke = 2; stroke <= scene.river.strokes; stroke++) {
                if (mostLeft(stroke) < mostLeft(best)) {
                    best = stroke;
                }
            }
            return best;
        }
    }
}
