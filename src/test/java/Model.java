import java.math.BigInteger;
import java.util.ArrayDeque;
import java.util.ArrayList;
import java.util.Arrays;
import java.util.Deque;
import java.util.HashMap;
import java.util.List;
import java.util.Map;
import java.util.function.IntBinaryOperator;

/**
 * The document once more, as plainly and as slowly as can be: every question goes through all rows, all sets,
 * all ways. It is written apart from the class, so that one of the two shows the other's slips.
 */
final class Model {
    static final class Fault extends RuntimeException {
        private static final long serialVersionUID = 1L;
        final int kind;
        final int place;

        Fault(int kind, int place) {
            this.kind = kind;
            this.place = place;
        }
    }

    interface Heat {
        int of(Map<String, Integer> given);
    }

    static final class Told {
        int columns = 8;
        int strokes = 6;
        int flood;
        int draw;
        int units;
        Heat heat;
        Map<String, Integer> currents = new HashMap<>();
        Map<String, Integer> irons = new HashMap<>();
        List<String> boardNames = new ArrayList<>();
        List<int[]> boards = new ArrayList<>();
        List<String> loadNames = new ArrayList<>();
        List<Integer> loads = new ArrayList<>();
    }

    static final class Board implements Cloneable {
        int column;
        int row;
        int heat;
        int scorches;
        int strokes;

        Board copy() {
            Board b = new Board();
            b.column = column;
            b.row = row;
            b.heat = heat;
            b.scorches = scorches;
            b.strokes = strokes;
            return b;
        }
    }

    static final class State {
        List<Board> boards = new ArrayList<>();
        List<Integer> places = new ArrayList<>();
        int seed;

        State copy() {
            State s = new State();
            for (Board b : boards) {
                s.boards.add(b.copy());
            }
            s.places.addAll(places);
            s.seed = seed;
            return s;
        }
    }

    static final class Parser {
        private static final List<String> OWN = Arrays.asList("water", "by", "current", "at", "iron", "board", "wide",
            "bears", "load", "heat", "flood", "draw", "or", "and", "not", "row", "column", "strokes", "hot");
        private final String text;
        private final List<String> tokens = new ArrayList<>();
        private final List<Integer> places = new ArrayList<>();
        private int next;
        private final Told told = new Told();
        private final List<String> lines = new ArrayList<>();
        private int currents;
        private int irons;

        Parser(String text) {
            this.text = text;
            java.util.regex.Matcher m = java.util.regex.Pattern.compile("[a-z]+|[0-9]+[a-z]?|[^ \\n]", java.util.regex.Pattern.DOTALL)
                .matcher(text);
            while (m.find()) {
                tokens.add(m.group());
                places.add(m.start());
            }
            tokens.add("");
            places.add(text.length());
        }

        private String peek() {
            String t = tokens.get(next);
            if (!t.matches("|[a-z]{1,8}|[0-9]{1,4}|[;()<>=+*/%-]")) {
                throw new Fault(1, places.get(next));
            }
            return t;
        }

        private Fault fault(int kind) {
            return new Fault(kind, places.get(next));
        }

        private boolean sees(String t) {
            return peek().equals(t);
        }

        private void skip(String t) {
            if (!sees(t)) {
                throw fault(2);
            }
            next++;
        }

        private int look(int low, int high) {
            if (!peek().matches("[0-9]+")) {
                throw fault(2);
            }
            int n = Integer.parseInt(peek());
            if (n < low || n > high) {
                throw fault(4);
            }
            return n;
        }

        private int number(int low, int high) {
            int n = look(low, high);
            next++;
            return n;
        }

        private String name(List<String> known) {
            if (!peek().matches("[a-z]+") || OWN.contains(peek())) {
                throw fault(2);
            }
            if (known.contains(peek())) {
                throw fault(3);
            }
            known.add(peek());
            return tokens.get(next++);
        }

        private void newCell(Map<String, Integer> known, int column, int low, int high, int value) {
            int row = look(low, high);
            if (known.containsKey(column + " " + row)) {
                throw fault(3);
            }
            known.put(column + " " + row, value);
            next++;
        }

        Told parse() {
            while (!sees("")) {
                line();
                skip(";");
            }
            return told;
        }

        private void line() {
            String first = peek();
            boolean can;
            switch (first) {
                case "water": can = lines.isEmpty(); break;
                case "current": can = currents < 16; break;
                case "iron": can = irons < 6; break;
                case "board": can = told.boards.size() < 4; break;
                case "load": can = told.loads.size() < 7; break;
                case "heat": case "flood": case "draw": can = !lines.contains(first); break;
                default: can = false;
            }
            if (!can) {
                throw fault(2);
            }
            lines.add(first);
            next++;
            switch (first) {
                case "water":
                    told.columns = number(1, 8);
                    skip("by");
                    told.strokes = number(1, 6);
                    break;
                case "current": {
                    currents++;
                    int force = number(0, 7);
                    skip("at");
                    int column = number(0, told.columns - 1);
                    newCell(told.currents, column, 0, told.strokes - 1, force);
                    break;
                }
                case "iron": {
                    irons++;
                    int column = number(0, told.columns - 1);
                    newCell(told.irons, column, 1, told.strokes - 1, 1);
                    break;
                }
                case "board": {
                    name(told.boardNames);
                    skip("wide");
                    int wide = number(0, 99);
                    skip("at");
                    int at = number(0, told.columns - 1);
                    int bears = 20;
                    if (sees("bears")) {
                        next++;
                        bears = number(0, 99);
                    }
                    told.boards.add(new int[] {wide, at, bears});
                    break;
                }
                case "load":
                    name(told.loadNames);
                    skip("wide");
                    told.loads.add(number(0, 99));
                    break;
                case "heat":
                    told.heat = any(0);
                    break;
                case "flood":
                    told.flood = number(0, 100);
                    break;
                default:
                    told.draw = number(0, 999);
            }
        }

        private static Heat two(Heat a, Heat b, IntBinaryOperator f) {
            return given -> f.applyAsInt(a.of(given), b.of(given));
        }

        private Heat any(int within) {
            Heat h = both(within);
            while (sees("or")) {
                next++;
                h = two(h, both(within), (a, b) -> (a == 0 ? 0 : 1) | (b == 0 ? 0 : 1));
            }
            return h;
        }

        private Heat both(int within) {
            Heat h = one(within);
            while (sees("and")) {
                next++;
                h = two(h, one(within), (a, b) -> (a == 0 ? 0 : 1) & (b == 0 ? 0 : 1));
            }
            return h;
        }

        private Heat one(int within) {
            if (sees("not")) {
                if (within == 7) {
                    throw fault(2);
                }
                next++;
                Heat h = one(within + 1);
                return given -> h.of(given) == 0 ? 1 : 0;
            }
            Heat h = sum(within);
            if (sees("<") || sees(">") || sees("=")) {
                String sign = tokens.get(next++);
                return two(h, sum(within), (a, b) -> {
                    int c = Integer.compare(a, b);
                    return (sign.equals("<") ? c < 0 : sign.equals(">") ? c > 0 : c == 0) ? 1 : 0;
                });
            }
            return h;
        }

        private Heat sum(int within) {
            Heat h = term(within);
            while (sees("+") || sees("-")) {
                boolean plus = tokens.get(next++).equals("+");
                h = two(h, term(within), (a, b) -> (int) (plus ? (long) a + b : (long) a - b));
            }
            return h;
        }

        private Heat term(int within) {
            Heat h = unit(within);
            while (sees("*") || sees("/") || sees("%")) {
                String sign = tokens.get(next++);
                h = two(h, unit(within), (a, b) -> {
                    if (sign.equals("*")) {
                        return (int) ((long) a * b);
                    }
                    return b == 0 ? 0 : (int) (sign.equals("/") ? (long) a / b : (long) a % b);
                });
            }
            return h;
        }

        private Heat unit(int within) {
            String t = peek();
            boolean number = t.matches("[0-9]+");
            boolean given = Arrays.asList("row", "column", "load", "wide", "strokes", "hot").contains(t);
            if (!number && !given && !t.equals("(") || told.units == 30 || t.equals("(") && within == 7) {
                throw fault(2);
            }
            told.units++;
            next++;
            if (number) {
                int n = Integer.parseInt(t);
                return g -> n;
            }
            if (given) {
                return g -> g.get(t);
            }
            Heat h = any(within + 1);
            skip(")");
            return h;
        }
    }

    static final class Seen {
        boolean heat;
        int strokes;
        int much;
        boolean is;
        int told;
        int untold = Integer.MAX_VALUE;
    }

    String tape = "";
    int faultKind;
    int faultPlace = -1;
    Told told = new Told();
    State now = new State();
    Deque<State> undos = new ArrayDeque<>();
    Deque<State> redos = new ArrayDeque<>();
    List<Integer> lying = new ArrayList<>();
    List<Seen> seen = new ArrayList<>();
    int time;
    State[] boxes = new State[3];

    int feed(int... n) {
        if (tape.length() + 20 > 1600) {
            return -1;
        }
        StringBuilder s = new StringBuilder(tape);
        for (int v : n) {
            s.append((char) (v >>> 24)).append((char) (v >>> 16 & 255)).append((char) (v >>> 8 & 255)).append((char) (v & 255));
        }
        tape = s.toString();
        return tape.length();
    }

    int end(int n) {
        if (n < 0 || n > tape.length()) {
            return -1;
        }
        tape = tape.substring(0, n);
        return n;
    }

    int river() {
        String text = tape;
        tape = "";
        try {
            told = new Parser(text).parse();
        } catch (Fault f) {
            faultKind = f.kind;
            faultPlace = f.place;
            return -1;
        }
        faultKind = 0;
        faultPlace = -1;
        now = new State();
        for (int[] b : told.boards) {
            Board board = new Board();
            board.column = b[1];
            now.boards.add(board);
        }
        for (int i = 0; i < told.loads.size(); i++) {
            now.places.add(-1);
        }
        now.seed = told.draw;
        undos.clear();
        redos.clear();
        lying.clear();
        seen.clear();
        boxes = new State[3];
        return told.boards.size();
    }

    int fault(int what) {
        return what == 0 ? faultKind : what == 1 ? faultPlace : -1;
    }

    boolean isBoard(int b) {
        return b >= 0 && b < told.boards.size();
    }

    boolean isLoad(int l) {
        return l >= 0 && l < told.loads.size();
    }

    int wide(int b) {
        return told.boards.get(b)[0];
    }

    int bears(int b) {
        return told.boards.get(b)[2];
    }

    int bitsAt(int place) {
        int bits = 0;
        for (int l = 0; l < told.loads.size(); l++) {
            bits |= now.places.get(l) == place ? 1 << l : 0;
        }
        return bits;
    }

    int width(int bits) {
        int sum = 0;
        for (int l = 0; l < told.loads.size(); l++) {
            sum += (bits & 1 << l) != 0 ? told.loads.get(l) : 0;
        }
        return sum;
    }

    int burden(int b) {
        return width(bitsAt(b));
    }

    int board(int b, int what) {
        if (!isBoard(b) || what < 0 || what > 8) {
            return -1;
        }
        Board x = now.boards.get(b);
        return new int[] {x.column, x.row, x.heat, x.scorches, x.strokes, wide(b), bears(b), burden(b), bitsAt(b)}[what];
    }

    int load(int l, int what) {
        return !isLoad(l) || what < 0 || what > 1 ? -3 : what == 0 ? told.loads.get(l) : now.places.get(l);
    }

    int current(int column, int row) {
        return told.currents.getOrDefault(column + " " + row, 0);
    }

    boolean iron(int column, int row) {
        return told.irons.containsKey(column + " " + row);
    }

    int spot(int column, int row, int what) {
        if (column < 0 || column >= told.columns || row < 0 || row > told.strokes || what < 0 || what > 1) {
            return -1;
        }
        return what == 0 ? current(column, row) : iron(column, row) ? 1 : 0;
    }

    int warmth(int b, Board x, int burden) {
        if (told.heat == null) {
            return 1;
        }
        Map<String, Integer> given = new HashMap<>();
        given.put("row", x.row);
        given.put("column", x.column);
        given.put("load", burden);
        given.put("wide", wide(b));
        given.put("strokes", x.strokes);
        given.put("hot", x.heat);
        return Math.max(0, Math.min(99, told.heat.of(given)));
    }

    int hotter(int b) {
        return isBoard(b) ? warmth(b, now.boards.get(b), burden(b)) : -1;
    }

    /** One stroke of a board, wherever it is from: 1 a hiss, 2 a scorch. */
    int go(int b, Board x, int steer, int by, boolean flood, int burden) {
        int heat = Math.min(99, x.heat + warmth(b, x, burden));
        int column = x.column + steer + current(x.column, x.row) * (flood ? 2 : 1);
        column = column < 0 ? 0 : column >= told.columns ? told.columns - 1 : column;
        int answer = 0;
        if (iron(column, x.row + by)) {
            answer = 1;
        } else {
            x.column = column;
            x.row += by;
        }
        x.strokes++;
        x.heat = heat;
        if (heat > bears(b)) {
            x.heat = 0;
            x.scorches = Math.min(999, x.scorches + 1);
            answer += 2;
        }
        return answer;
    }

    void act() {
        undos.push(now.copy());
        redos.clear();
        if (undos.size() > 40) {
            undos.removeLast();
        }
    }

    int stroke(int b, int steer, boolean out) {
        if (!isBoard(b) || Math.abs((long) steer) > 1) {
            return -1;
        }
        if (now.boards.get(b).row == (out ? told.strokes : 0)) {
            return -1;
        }
        act();
        now.seed = (now.seed * 137 + 71) % 1000;
        return go(b, now.boards.get(b), steer, out ? 1 : -1, now.seed % 100 < told.flood, burden(b));
    }

    int bank(int b) {
        int row = now.boards.get(b).row;
        return row == 0 ? -1 : row == told.strokes ? -2 : 0;
    }

    int stow(int l, int b) {
        if (!isLoad(l) || !isBoard(b) || bank(b) == 0 || now.places.get(l) != bank(b) || burden(b) + told.loads.get(l) > wide(b)) {
            return -1;
        }
        act();
        now.places.set(l, b);
        return burden(b);
    }

    int take(int l) {
        if (!isLoad(l) || now.places.get(l) < 0 || bank(now.places.get(l)) == 0) {
            return -1;
        }
        act();
        int b = now.places.get(l);
        now.places.set(l, bank(b));
        return b;
    }

    int cool(int b, int much) {
        if (!isBoard(b) || much < 1 || much > 9) {
            return -1;
        }
        act();
        Board x = now.boards.get(b);
        x.heat = Math.max(0, x.heat - much);
        return x.heat;
    }

    boolean undo() {
        if (undos.isEmpty()) {
            return false;
        }
        redos.push(now);
        now = undos.pop();
        return true;
    }

    boolean redo() {
        if (redos.isEmpty()) {
            return false;
        }
        undos.push(now);
        now = redos.pop();
        return true;
    }

    /** All lists of steers of a length, in their order. */
    static List<int[]> steers(int length) {
        List<int[]> all = new ArrayList<>();
        int count = (int) Math.round(Math.pow(3, length));
        for (int n = 0; n < count; n++) {
            int[] s = new int[length];
            for (int i = length - 1, m = n; i >= 0; i--, m /= 3) {
                s[i] = m % 3 - 1;
            }
            all.add(s);
        }
        return all;
    }

    /** The board behind a row of steers; null if it hisses. Scorches are those of the way. */
    Board along(int b, int[] steers) {
        Board x = now.boards.get(b).copy();
        x.scorches = 0;
        for (int steer : steers) {
            if ((go(b, x, steer, 1, false, burden(b)) & 1) != 0) {
                return null;
            }
        }
        return x;
    }

    List<int[]> rowsOf(int b) {
        List<int[]> rows = new ArrayList<>();
        for (int[] s : steers(told.strokes - now.boards.get(b).row)) {
            if (along(b, s) != null) {
                rows.add(s);
            }
        }
        return rows;
    }

    int landings(int b) {
        if (!isBoard(b)) {
            return -1;
        }
        int bits = 0;
        for (int[] s : rowsOf(b)) {
            bits |= 1 << along(b, s).column;
        }
        return bits;
    }

    int drift(int b) {
        if (!isBoard(b)) {
            return -1;
        }
        Board x = along(b, new int[told.strokes - now.boards.get(b).row]);
        return x == null ? -1 : x.column;
    }

    int rows(int b) {
        return isBoard(b) ? rowsOf(b).size() : -1;
    }

    void lay(int... numbers) {
        for (int n : numbers) {
            lying.add(n);
        }
    }

    int coolest(int b, int what) {
        lying.clear();
        if (!isBoard(b) || what < 0 || what > 2) {
            return -1;
        }
        int[] best = null;
        for (int[] s : rowsOf(b)) {
            if (best == null || badness(b, s) < badness(b, best)) {
                best = s;
            }
        }
        if (best == null) {
            return -1;
        }
        lay(best);
        Board x = along(b, best);
        return what == 0 ? x.scorches : what == 1 ? x.heat : x.column;
    }

    private int badness(int b, int[] s) {
        Board x = along(b, s);
        return x.scorches * 1000 + x.heat;
    }

    int straight(int b, int column) {
        lying.clear();
        if (!isBoard(b)) {
            return -1;
        }
        int[] best = null;
        for (int[] s : rowsOf(b)) {
            if (along(b, s).column == column && (best == null || bends(s) < bends(best))) {
                best = s;
            }
        }
        if (best == null) {
            return -1;
        }
        lay(best);
        return bends(best);
    }

    private static int bends(int[] s) {
        return (int) Arrays.stream(s).filter(v -> v != 0).count();
    }

    int widest(int b, int what) {
        if (!isBoard(b) || bank(b) == 0 || what < 0 || what > 1) {
            return -1;
        }
        int best = 0;
        for (int set = 0; set < 1 << told.loads.size(); set++) {
            boolean can = (set & bitsAt(bank(b))) == set && width(set) + burden(b) <= wide(b);
            if (can && width(set) > width(best)) {
                best = set;
            }
        }
        return what == 0 ? width(best) : best;
    }

    /** All ways to give each load of the near bank one of some bins, in their order; -1 for others. */
    private void ways(int bins, int[] way, int l, List<int[]> all) {
        if (l == way.length) {
            all.add(way.clone());
            return;
        }
        if (now.places.get(l) != -1) {
            way[l] = -1;
            ways(bins, way, l + 1, all);
            return;
        }
        for (int bin = 0; bin < bins; bin++) {
            way[l] = bin;
            ways(bins, way, l + 1, all);
        }
    }

    private int inBin(int[] way, int bin) {
        int sum = 0;
        for (int l = 0; l < way.length; l++) {
            sum += way[l] == bin ? told.loads.get(l) : 0;
        }
        return sum;
    }

    private static int used(int[] way) {
        return (int) Arrays.stream(way).filter(v -> v >= 0).distinct().count();
    }

    int trips(int b) {
        lying.clear();
        if (!isBoard(b)) {
            return -1;
        }
        for (int l = 0; l < told.loads.size(); l++) {
            if (now.places.get(l) == -1 && told.loads.get(l) > wide(b)) {
                return -1;
            }
        }
        for (int count = 0; count <= 7; count++) {
            List<int[]> all = new ArrayList<>();
            ways(count, new int[told.loads.size()], 0, all);
            for (int[] way : all) {
                boolean flat = true;
                int opened = 0;
                for (int bin : way) {
                    flat &= bin <= opened;
                    opened = Math.max(opened, bin + 1);
                }
                for (int bin = 0; bin < count; bin++) {
                    flat &= inBin(way, bin) <= wide(b);
                }
                if (flat) {
                    lay(way);
                    return used(way);
                }
            }
        }
        throw new IllegalStateException();
    }

    int stowing() {
        lying.clear();
        List<int[]> all = new ArrayList<>();
        ways(told.boards.size(), new int[told.loads.size()], 0, all);
        int[] best = null;
        for (int[] way : all) {
            boolean flat = true;
            for (int b = 0; b < told.boards.size(); b++) {
                int bin = b;
                boolean gets = Arrays.stream(way).anyMatch(v -> v == bin);
                flat &= !gets || now.boards.get(b).row == 0 && burden(b) + inBin(way, b) <= wide(b);
            }
            if (flat && (best == null || used(way) < used(best))) {
                best = way;
            }
        }
        if (best == null) {
            return -1;
        }
        lay(best);
        return used(best);
    }

    int meet(int a, int b) {
        if (!isBoard(a) || !isBoard(b) || a == b || now.boards.get(a).row != now.boards.get(b).row) {
            return -1;
        }
        for (int n = 0; n <= told.strokes - now.boards.get(a).row; n++) {
            boolean[] ones = reached(a, n);
            boolean[] others = reached(b, n);
            for (int c = 0; c + 1 < 8; c++) {
                if (ones[c] && others[c + 1] || others[c] && ones[c + 1]) {
                    return n;
                }
            }
        }
        return -1;
    }

    private boolean[] reached(int b, int n) {
        boolean[] columns = new boolean[8];
        for (int[] s : steers(n)) {
            Board x = along(b, s);
            if (x != null) {
                columns[x.column] = true;
            }
        }
        return columns;
    }

    private int[] bestMooring;

    private static int landed(int[] m) {
        return (int) Arrays.stream(m).filter(v -> v >= 0).count();
    }

    private int between(int[] m) {
        int sum = 0;
        for (int b = 0; b < m.length; b++) {
            sum += m[b] < 0 ? 0 : Math.abs(m[b] - now.boards.get(b).column);
        }
        return sum;
    }

    private void moor(int[] m, int b, int[] landings) {
        if (b == m.length) {
            int[] best = bestMooring;
            if (best == null || landed(m) > landed(best) || landed(m) == landed(best) && between(m) < between(best)) {
                bestMooring = m.clone();
            }
            return;
        }
        for (int c = 0; c <= 8; c++) {
            int column = c;
            boolean can = c == 8 || now.boards.get(b).row == 0 && (landings[b] & 1 << c) != 0
                && Arrays.stream(m, 0, b).noneMatch(v -> v == column);
            if (can) {
                m[b] = c == 8 ? -1 : c;
                moor(m, b + 1, landings);
            }
        }
    }

    int mooring(int what) {
        if (what != 0 && what != 1) {
            return -1;
        }
        bestMooring = null;
        int[] landings = new int[told.boards.size()];
        for (int b = 0; b < landings.length; b++) {
            landings[b] = landings(b);
        }
        moor(new int[landings.length], 0, landings);
        lying.clear();
        lay(bestMooring);
        return what == 0 ? landed(bestMooring) : between(bestMooring);
    }

    int guests(int a, int b) {
        lying.clear();
        if (!isBoard(a) || !isBoard(b) || a == b || landings(a) == 0 || landings(b) == 0) {
            return -1;
        }
        int rests = 0;
        int la = landings(a);
        int lb = landings(b);
        for (int c = 0; c < 8; c++) {
            for (int d = 0; d < 8; d++) {
                if ((la & 1 << c) == 0 || (lb & 1 << d) == 0) {
                    continue;
                }
                boolean rest = true;
                for (int e = 0; e < 8; e++) {
                    rest &= (la & 1 << e) == 0 || gets(a, e, d) <= gets(a, c, d);
                    rest &= (lb & 1 << e) == 0 || gets(b, e, c) <= gets(b, d, c);
                }
                if (rest && rests++ == 0) {
                    lay(c, d);
                }
            }
        }
        return rests;
    }

    private int gets(int b, int own, int others) {
        return (own == others ? 3 : 9) - Math.abs(own - now.boards.get(b).column);
    }

    int singe(int b) {
        if (!isBoard(b)) {
            return -1;
        }
        for (int n = 1; n <= told.strokes - now.boards.get(b).row; n++) {
            Board x = along(b, new int[n]);
            if (x == null) {
                return -1;
            }
            if (x.scorches > 0) {
                return n;
            }
        }
        return -1;
    }

    int odds(int b, int column, int part) {
        if (!isBoard(b) || column < 0 || column >= told.columns || part < 0 || part > 1) {
            return -1;
        }
        int left = told.strokes - now.boards.get(b).row;
        if (left > 4) {
            return -1;
        }
        BigInteger upper = BigInteger.ZERO;
        for (int floods = 0; floods < 1 << left; floods++) {
            Board x = now.boards.get(b).copy();
            BigInteger weight = BigInteger.ONE;
            boolean hissed = false;
            for (int i = 0; i < left; i++) {
                boolean flood = (floods & 1 << i) != 0;
                weight = weight.multiply(BigInteger.valueOf(flood ? told.flood : 100 - told.flood));
                hissed = hissed || (go(b, x, 0, 1, flood, burden(b)) & 1) != 0;
            }
            if (!hissed && x.column == column) {
                upper = upper.add(weight);
            }
        }
        BigInteger lower = BigInteger.valueOf(100).pow(left);
        BigInteger shared = upper.gcd(lower);
        return (part == 0 ? upper : lower).divide(shared).intValueExact();
    }

    int over() {
        return bitsAt(-2);
    }

    int left() {
        return width(~bitsAt(-2));
    }

    int pulled() {
        int bits = 0;
        for (int b = 0; b < told.boards.size(); b++) {
            bits |= current(now.boards.get(b).column, now.boards.get(b).row) != 0 ? 1 << b : 0;
        }
        return bits;
    }

    int hottest() {
        int best = -1;
        for (int b = told.boards.size() - 1; b >= 0; b--) {
            if (best < 0 || bears(b) - now.boards.get(b).heat <= bears(best) - now.boards.get(best).heat) {
                best = b;
            }
        }
        return best;
    }

    int law(int n) {
        if (n < 0 || n > 99) {
            return -1;
        }
        int count = 0;
        for (int l = 0; l < told.loads.size(); l++) {
            count += now.places.get(l) == -1 && told.loads.get(l) <= n ? 1 : 0;
        }
        return count;
    }

    int lies(int i) {
        return i >= 0 && i < lying.size() ? lying.get(i) : -2;
    }

    private int tell(boolean heat, int strokes, int much, boolean is) {
        if (strokes < 1 || strokes > told.strokes || much < 0 || much > (heat ? 99 : 7) || seen.size() == 30 || told.boards.isEmpty()) {
            return -1;
        }
        Seen s = new Seen();
        s.heat = heat;
        s.strokes = strokes;
        s.much = much;
        s.is = is;
        s.told = time;
        seen.add(s);
        return seen.size() - 1;
    }

    int passed(int strokes, int column, boolean is) {
        return tell(false, strokes, column, is);
    }

    int felt(int strokes, int heat, boolean is) {
        return tell(true, strokes, heat, is);
    }

    boolean untell(int n) {
        if (n < 0 || n >= seen.size() || seen.get(n).untold != Integer.MAX_VALUE) {
            return false;
        }
        seen.get(n).untold = time;
        return true;
    }

    int later(int by) {
        if (by < 0 || by > 1000 || time + by > 100000) {
            return -1;
        }
        return time += by;
    }

    private List<int[]> fitting(int k) {
        List<int[]> fit = new ArrayList<>();
        if (told.boards.isEmpty()) {
            return fit;
        }
        for (int[] s : steers(told.strokes)) {
            Board x = new Board();
            x.column = told.boards.get(0)[1];
            boolean so = true;
            for (int i = 0; i < s.length; i++) {
                go(0, x, s[i], 1, false, 0);
                for (Seen n : seen) {
                    boolean counts = n.told <= k && !(n.untold != Integer.MAX_VALUE && n.untold <= k);
                    if (counts && n.strokes == i + 1) {
                        so &= ((n.heat ? x.heat : x.column) >= n.much) == n.is;
                    }
                }
            }
            if (so) {
                fit.add(s);
            }
        }
        return fit;
    }

    int fits(int k) {
        return fitting(k).size();
    }

    int sure(int stroke, int k) {
        List<int[]> fit = fitting(k);
        if (stroke < 1 || stroke > told.strokes || fit.isEmpty()) {
            return -3;
        }
        int first = fit.get(0)[stroke - 1];
        return fit.stream().allMatch(s -> s[stroke - 1] == first) ? first : -2;
    }

    int ask(int what, int k) {
        List<int[]> fit = fitting(k);
        if (fit.isEmpty() || what < 0 || what > 1) {
            return -1;
        }
        int best = 0;
        long bestLeft = Long.MAX_VALUE;
        for (int stroke = 1; stroke <= told.strokes; stroke++) {
            long most = 0;
            for (int steer = -1; steer <= 1; steer++) {
                int i = stroke - 1;
                int wanted = steer;
                most = Math.max(most, fit.stream().filter(s -> s[i] == wanted).count());
            }
            if (most < bestLeft) {
                best = stroke;
                bestLeft = most;
            }
        }
        return what == 0 ? best : (int) bestLeft;
    }

    int image(int box) {
        if (box < 0 || box > 2) {
            return -1;
        }
        boxes[box] = now.copy();
        return Integer.bitCount(over());
    }

    int back(int box) {
        if (box < 0 || box > 2 || boxes[box] == null) {
            return -1;
        }
        now = boxes[box].copy();
        undos.clear();
        redos.clear();
        return Integer.bitCount(over());
    }

    int about(int what) {
        int[] all = {told.boards.size(), told.loads.size(), told.columns, told.strokes, told.flood, now.seed, undos.size(),
            redos.size(), seen.size(), time, tape.length(), told.units, lying.size()};
        return what >= 0 && what < all.length ? all[what] : -1;
    }
}
