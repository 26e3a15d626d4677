import java.util.ArrayList;
import java.util.List;
import java.util.Random;

/** Runs of drawn calls on drawn rivers: the class and the model must answer alike. The draws are the same each time. */
public final class ModelTest {
    private static final int RUNS = 220;
    private static final int CALLS = 500;
    private static final int[] ODD = {-1, -2, -3, 7, 8, 9, 30, 31, 32, 33, -32, -31, 64, 100, 1001, Integer.MAX_VALUE,
        Integer.MIN_VALUE};

    private ModelTest() {
    }

    /** How many runs, and a seed, can be told; else they are those of .ci/run. */
    public static void main(String[] args) {
        int runs = args.length > 0 ? Integer.parseInt(args[0]) : RUNS;
        long seed = args.length > 1 ? Long.parseLong(args[1]) : 0;
        for (int run = 1; run <= runs; run++) {
            run(run, new Random(run * 7919L + seed * 104729L));
        }
        readTexts(new Random(4711 + seed));
        Check.finish("ModelTest");
    }

    private static void run(int number, Random draw) {
        BoardCrossing x = new BoardCrossing();
        Model m = new Model();
        tellBoth("run " + number, x, m, river(draw));
        for (int i = 0; i < CALLS; i++) {
            int which = draw.nextInt(54);
            if (which == 53 && draw.nextInt(10) == 0) {
                tellBoth("run " + number, x, m, draw.nextBoolean() ? river(draw) : broken(river(draw), draw));
            } else {
                call("run " + number + " call " + i, x, m, which, draw);
            }
        }
    }

    private static void readTexts(Random draw) {
        for (int i = 0; i < 20000; i++) {
            BoardCrossing x = new BoardCrossing();
            Model m = new Model();
            String text = river(draw);
            for (int n = draw.nextInt(3); n >= 0; n--) {
                text = broken(text, draw);
            }
            tellBoth("text " + i, x, m, text);
        }
    }

    private static void tellBoth(String where, BoardCrossing x, Model m, String whole) {
        String text = whole.length() > 1600 ? whole.substring(0, 1600) : whole;
        x.end(0);
        Check.feed(x, text);
        m.tape = text;
        int want = m.river();
        int got = x.river();
        String call = where + " river \"" + text + "\"";
        Check.due(call, want, got);
        Check.due(call + " fault", m.fault(0), x.fault(0));
        Check.due(call + " place", m.fault(1), x.fault(1));
        for (int what = 0; what <= 12; what++) {
            Check.due(call + " about " + what, m.about(what), x.about(what));
        }
    }

    private static int some(Random draw, int below) {
        return draw.nextInt(25) == 0 ? ODD[draw.nextInt(ODD.length)] : draw.nextInt(below);
    }

    private static int bit(boolean b) {
        return b ? 1 : 0;
    }

    private static void call(String where, BoardCrossing x, Model m, int which, Random draw) {
        int b = some(draw, 4);
        int c = some(draw, 4);
        int column = some(draw, 8);
        int three = some(draw, 3);
        int steer = some(draw, 3) - 1;
        int load = some(draw, 7);
        int time = some(draw, 6);
        int stroke = some(draw, 6) + (draw.nextInt(8) == 0 ? 0 : 1);
        boolean is = draw.nextInt(4) != 0;
        String call = where + " #" + which + " b" + b + " c" + c + " col" + column + " w" + three + " s" + steer + " l" + load;
        int want;
        int got;
        switch (which) {
            case 0: want = m.feed(b, c, column, steer, load); got = x.feed(b, c, column, steer, load); break;
            case 1: want = m.end(column); got = x.end(column); break;
            case 2: want = m.fault(three); got = x.fault(three); break;
            case 3: want = m.board(b, time * 2); got = x.board(b, time * 2); break;
            case 4: want = m.load(load, three); got = x.load(load, three); break;
            case 5: want = m.spot(column, stroke, three); got = x.spot(column, stroke, three); break;
            case 6: want = m.hotter(b); got = x.hotter(b); break;
            case 7: case 8: case 9: case 10: case 11: case 12: case 13:
                want = m.stroke(b, steer, is); got = x.stroke(b, steer, is); break;
            case 14: case 15: case 16: want = m.stow(load, b); got = x.stow(load, b); break;
            case 17: case 18: want = m.take(load); got = x.take(load); break;
            case 19: want = m.cool(b, column + 1); got = x.cool(b, column + 1); break;
            case 20: case 21: want = bit(m.undo()); got = bit(x.undo()); break;
            case 22: case 23: want = bit(m.redo()); got = bit(x.redo()); break;
            case 24: want = m.landings(b); got = x.landings(b); break;
            case 25: want = m.drift(b); got = x.drift(b); break;
            case 26: want = m.rows(b); got = x.rows(b); break;
            case 27: want = m.coolest(b, three); got = x.coolest(b, three); break;
            case 28: want = m.straight(b, column); got = x.straight(b, column); break;
            case 29: want = m.widest(b, three); got = x.widest(b, three); break;
            case 30: want = m.trips(b); got = x.trips(b); break;
            case 31: want = m.stowing(); got = x.stowing(); break;
            case 32: want = m.meet(b, c); got = x.meet(b, c); break;
            case 33: want = m.mooring(three); got = x.mooring(three); break;
            case 34: want = m.guests(b, c); got = x.guests(b, c); break;
            case 35: want = m.singe(b); got = x.singe(b); break;
            case 36: want = m.odds(b, column, three % 2); got = x.odds(b, column, three % 2); break;
            case 37: want = m.over(); got = x.over(); break;
            case 38: want = m.left(); got = x.left(); break;
            case 39: want = m.pulled(); got = x.pulled(); break;
            case 40: want = m.hottest(); got = x.hottest(); break;
            case 41: { int n = some(draw, 100); want = m.law(n); got = x.law(n); break; }
            case 42: want = m.lies(column); got = x.lies(column); break;
            case 43: want = m.passed(stroke, column, is); got = x.passed(stroke, column, is); break;
            case 44: { int n = some(draw, 25); want = m.felt(stroke, n, is); got = x.felt(stroke, n, is); break; }
            case 45: { int n = some(draw, 30); want = bit(m.untell(n)); got = bit(x.untell(n)); break; }
            case 46: { int n = some(draw, 2); want = m.later(n); got = x.later(n); break; }
            case 47: want = m.fits(time); got = x.fits(time); break;
            case 48: want = m.sure(stroke, time); got = x.sure(stroke, time); break;
            case 49: want = m.ask(three, time); got = x.ask(three, time); break;
            case 50: want = m.image(three); got = x.image(three); break;
            case 51: { int box = draw.nextInt(3) == 0 ? three : 9; want = m.back(box); got = x.back(box); break; }
            default: { int n = some(draw, 13); want = m.about(n); got = x.about(n); }
        }
        Check.due(call, want, got);
        Check.due(call + " lying", m.about(12), x.about(12));
        for (int i = 0; i < m.about(12); i++) {
            Check.due(call + " lies " + i, m.lies(i), x.lies(i));
        }
    }

    // drawn texts

    private static void add(List<String> parts, String line) {
        for (String word : line.split(" ")) {
            parts.add(word);
        }
        parts.add(";");
    }

    private static String river(Random draw) {
        List<String> parts = new ArrayList<>();
        int columns = 8;
        int strokes = 6;
        if (draw.nextInt(4) != 0) {
            columns = 1 + draw.nextInt(8);
            strokes = 1 + draw.nextInt(6);
            add(parts, "water " + columns + " by " + strokes);
        }
        int top = draw.nextBoolean() ? 12 : 100;
        List<String> lines = new ArrayList<>();
        for (int n = draw.nextInt(12), i = 0; i < n && i < columns * strokes; i++) {
            int cell = (i * 7 + n) % (columns * strokes);
            String line = "current " + draw.nextInt(draw.nextBoolean() ? 3 : 8) + " at " + cell % columns + " " + cell / columns;
            if (lines.stream().noneMatch(l -> l.startsWith("current") && l.endsWith(line.substring(9)))) {
                lines.add(line);
            }
        }
        for (int n = draw.nextInt(7), i = 0; i < n && strokes > 1; i++) {
            String line = "iron " + draw.nextInt(columns) + " " + (1 + draw.nextInt(strokes - 1));
            if (!lines.contains(line)) {
                lines.add(line);
            }
        }
        for (int n = draw.nextInt(20) == 0 ? 0 : 1 + draw.nextInt(4), i = 0; i < n; i++) {
            String bears = draw.nextBoolean() ? "" : " bears " + draw.nextInt(top);
            lines.add("board " + "bcde".charAt(i) + "x wide " + draw.nextInt(top * 2 > 100 ? 100 : top * 2) + " at " + draw.nextInt(columns) + bears);
        }
        for (int n = draw.nextInt(8), i = 0; i < n; i++) {
            lines.add("load " + "bcdefgh".charAt(i) + " wide " + draw.nextInt(draw.nextInt(4) == 0 ? 1 : top));
        }
        if (draw.nextInt(5) != 0) {
            lines.add("heat " + any(draw, 3));
        }
        if (draw.nextBoolean()) {
            lines.add("flood " + draw.nextInt(101));
        }
        if (draw.nextBoolean()) {
            lines.add("draw " + draw.nextInt(1000));
        }
        java.util.Collections.shuffle(lines, draw);
        for (String line : lines) {
            add(parts, line);
        }
        return joined(parts, draw);
    }

    private static String any(Random draw, int deep) {
        switch (draw.nextInt(9)) {
            case 0: return one(draw, deep) + " or " + one(draw, deep);
            case 1: return one(draw, deep) + " and " + one(draw, deep);
            default: return one(draw, deep);
        }
    }

    private static String one(Random draw, int deep) {
        switch (draw.nextInt(6)) {
            case 0: return deep == 0 ? "hot" : "not " + one(draw, deep - 1);
            case 1: return sum(draw, deep) + " " + "<>=".charAt(draw.nextInt(3)) + " " + sum(draw, deep);
            default: return sum(draw, deep);
        }
    }

    private static String sum(Random draw, int deep) {
        StringBuilder text = new StringBuilder(unit(draw, deep));
        for (int n = draw.nextInt(3); n > 0; n--) {
            text.append(' ').append("++-*/%".charAt(draw.nextInt(6))).append(' ').append(unit(draw, deep));
        }
        return text.toString();
    }

    private static String unit(Random draw, int deep) {
        switch (draw.nextInt(11)) {
            case 0: return "row";
            case 1: return "column";
            case 2: return "load";
            case 3: return "wide";
            case 4: return "strokes";
            case 5: return "hot";
            case 6: case 7: return deep == 0 ? "2" : "( " + any(draw, deep - 1) + " )";
            case 8: return "" + draw.nextInt(10000);
            default: return "" + draw.nextInt(5);
        }
    }

    /** Blanks only where two words, two numbers, or a number and a word would grow together, else as drawn. */
    private static String joined(List<String> parts, Random draw) {
        StringBuilder text = new StringBuilder();
        for (String part : parts) {
            boolean needs = text.length() > 0 && Character.isLetterOrDigit(text.charAt(text.length() - 1))
                && Character.isLetterOrDigit(part.charAt(0));
            if (needs || draw.nextInt(4) == 0) {
                text.append(draw.nextInt(5) == 0 ? "\n" : " ");
            }
            text.append(part);
        }
        return text.toString();
    }

    private static final String[] WORDS = {"water", "by", "current", "at", "iron", "board", "wide", "bears", "load", "heat",
        "flood", "draw", "or", "and", "not", "row", "column", "strokes", "hot", "bx", "b", "abcdefgh", "abcdefghi", "0", "1",
        "7", "8", "99", "100", "1000", "9999", "12345", "1a", ";", "(", ")", "<", ">", "=", "+", "-", "*", "/", "%", "A", "$", "\t",
        "\0", "\u00e9"};

    /** A text with a word put in, taken out or changed, or cut off. */
    private static String broken(String text, Random draw) {
        if (text.isEmpty()) {
            return WORDS[draw.nextInt(WORDS.length)];
        }
        java.util.regex.Matcher m = java.util.regex.Pattern.compile("[a-z]+|[0-9]+|[^a-z0-9]").matcher(text);
        List<String> parts = new ArrayList<>();
        while (m.find()) {
            parts.add(m.group());
        }
        int i = draw.nextInt(parts.size());
        String word = WORDS[draw.nextInt(WORDS.length)];
        switch (draw.nextInt(8)) {
            case 0: parts.remove(i); break;
            case 1: parts = parts.subList(0, i); break;
            case 2: case 3: parts.add(i, " " + word + (draw.nextInt(3) == 0 ? "" : " ")); break;
            case 4: parts.add(line(parts, draw)); break;
            default: parts.set(i, word);
        }
        return String.join("", parts);
    }

    private static String line(List<String> parts, Random draw) {
        String whole = String.join("", parts);
        String[] lines = whole.split(";");
        return lines.length == 0 ? ";" : lines[draw.nextInt(lines.length)] + ";";
    }
}
