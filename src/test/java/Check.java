import java.nio.charset.StandardCharsets;
import java.util.Arrays;

/** What the tests share: telling a text to an object, and counting the answers that are not as due. */
final class Check {
    private static int wrong;
    private static int looked;
    private static String heading = "";

    private Check() {
    }

    /** What stands ahead of each answer from here on that is not as due. */
    static void head(String words) {
        heading = words;
    }

    static int looked() {
        return looked;
    }

    static void due(String call, long want, long got) {
        looked++;
        if (want != got) {
            wrong++;
            System.out.println(heading + call + " answered " + got + ", due is " + want);
        }
    }

    static void due(String call, boolean want, boolean got) {
        due(call, want ? 1 : 0, got ? 1 : 0);
    }

    /** What lies there, all of it and no more. */
    static void dueLying(String call, BoardCrossing x, int... want) {
        due(call + ", how many lie there", want.length, x.about(12));
        for (int i = 0; i < want.length; i++) {
            due(call + ", lies(" + i + ")", want[i], x.lies(i));
        }
        due(call + ", lies behind the last", -2, x.lies(want.length));
    }

    /** A text that has a fault of a kind at a place, and leaves the object as it was. */
    static void dueFault(String text, int kind, int place) {
        BoardCrossing x = told("board old wide 5 at 2;load kept wide 3;draw 7;");
        due("river() of \"" + text + "\"", -1, tell(x, text));
        due("fault(0) of \"" + text + "\"", kind, x.fault(0));
        due("fault(1) of \"" + text + "\"", place, x.fault(1));
        due("boards behind the fault", 1, x.about(0));
        due("loads behind the fault", 1, x.about(1));
        due("the seed behind the fault", 7, x.about(5));
        due("the tape behind the fault", 0, x.about(10));
    }

    static void dueRiver(String text, int boards) {
        BoardCrossing x = new BoardCrossing();
        due("river() of \"" + text + "\"", boards, tell(x, text));
        due("fault(0) of \"" + text + "\"", 0, x.fault(0));
        due("fault(1) of \"" + text + "\"", -1, x.fault(1));
    }

    static void feed(BoardCrossing x, String text) {
        byte[] bytes = text.getBytes(StandardCharsets.ISO_8859_1);
        int before = x.about(10);
        for (int i = 0; i < bytes.length; i += 20) {
            byte[] part = Arrays.copyOfRange(bytes, i, i + 20);
            int[] n = new int[5];
            for (int j = 0; j < 20; j++) {
                n[j / 4] = n[j / 4] << 8 | part[j] & 255;
            }
            x.feed(n[0], n[1], n[2], n[3], n[4]);
        }
        x.end(before + bytes.length);
    }

    static int tell(BoardCrossing x, String text) {
        feed(x, text);
        return x.river();
    }

    static BoardCrossing told(String text) {
        BoardCrossing x = new BoardCrossing();
        int boards = tell(x, text);
        if (boards < 0) {
            due("river() of \"" + text + "\" (fault " + x.fault(0) + " at " + x.fault(1) + ")", 0, boards);
        }
        return x;
    }

    static void finish(String test) {
        System.out.println(test + ": " + looked + " answers looked at, " + wrong + " not as due");
        if (wrong != 0) {
            System.exit(1);
        }
    }
}
