import java.io.IOException;
import java.nio.file.Files;
import java.nio.file.Path;
import java.util.ArrayList;
import java.util.BitSet;
import java.util.List;
import java.util.TreeSet;
import java.util.function.ToIntFunction;

/**
 * What the boundary tests share. Each of their tests begins with the promises and the sentence of ../shared/DOC.md that it
 * looks at. A sentence that does not stand there so, or of which no answer is looked at, counts as wrong itself; and so does
 * whatever of the document's terms and promises no test has named.
 */
abstract class Boundary {
    static final int LOW = Integer.MIN_VALUE;
    static final int HIGH = Integer.MAX_VALUE;
    private static final int PROMISES = 44;
    private static final String DOCUMENT = read();
    private static final BitSet NAMED_TEXT = new BitSet();
    private static final TreeSet<Integer> NAMED_PROMISES = new TreeSet<>();
    private static int sentences;
    private static int lookedBefore;

    /** The sentence of one promise, as it stands under the promise's own heading. */
    static void promise(int number, String sentence) {
        begin("Promise " + number, "## Promise " + number + ":", sentence);
        NAMED_PROMISES.add(number);
    }

    /** A sentence under "Terms", with the promises that use its words. */
    static void terms(String promises, String sentence) {
        begin("Terms, for promise " + promises, "## Terms", sentence);
        for (String number : promises.split(", ")) {
            NAMED_PROMISES.add(Integer.valueOf(number));
        }
    }

    /** A sentence ahead of the public face, which holds for all promises. */
    static void all(String sentence) {
        begin("All promises", "## What it is", sentence);
    }

    private static void begin(String name, String heading, String sentence) {
        end();
        sentences++;
        Check.head(name + ": \"" + sentence + "\"\n  ");
        int section = DOCUMENT.indexOf(heading);
        int next = DOCUMENT.indexOf(" ## ", Math.max(0, section));
        int place = section < 0 ? -1 : DOCUMENT.indexOf(sentence, section);
        boolean stands = place >= 0 && (next < 0 || place < next);
        Check.due("that this stands in the document", true, stands || DOCUMENT.isEmpty());
        if (stands) {
            NAMED_TEXT.set(place, place + sentence.length());
        }
        lookedBefore = Check.looked();
    }

    private static void end() {
        if (sentences > 0) {
            Check.due("that some answer is looked at", true, Check.looked() > lookedBefore);
        }
    }

    /** The document with single blanks; without it the answers are still looked at, but not whether sentences stand in it. */
    private static String read() {
        try {
            return Files.readString(Path.of("../shared/DOC.md")).replaceAll("\\s+", " ");
        } catch (IOException e) {
            System.out.println("the document is not compared with the tests' sentences, as it can't be read: " + e);
            return "";
        }
    }

    static void finish(String test) {
        end();
        Check.head("");
        for (int number = 1; number <= PROMISES; number++) {
            Check.due("that a test names promise " + number, true, NAMED_PROMISES.contains(number));
        }
        for (String words : unnamed()) {
            Check.due("that a test names \"" + words + "\"", true, false);
        }
        Check.finish(test + ", " + sentences + " sentences");
    }

    /** What is left of terms and promises beside the sentences that were named, headings and marks. */
    private static List<String> unnamed() {
        StringBuilder left = new StringBuilder();
        int to = Math.max(0, DOCUMENT.indexOf("## Not promised"));
        for (int i = Math.max(0, DOCUMENT.indexOf("## Terms")); i < to; i++) {
            left.append(NAMED_TEXT.get(i) ? '\n' : DOCUMENT.charAt(i));
        }
        String words = left.toString().replaceAll("## Promise \\d+: [\\w ]+ `[^`]*`:", "").replaceAll("## Terms|```text|```|==== \\d\\.", "");
        List<String> unnamed = new ArrayList<>();
        for (String part : words.split("\n")) {
            if (part.matches(".*[\\w].*")) {
                unnamed.add(part.trim());
            }
        }
        return unnamed;
    }

    static void due(String call, long want, long got) {
        Check.due(call, want, got);
    }

    static void due(String call, boolean want, boolean got) {
        Check.due(call, want, got);
    }

    static void lying(String call, BoardCrossing x, int... want) {
        Check.dueLying(call, x, want);
    }

    static void fault(String text, int kind, int place) {
        Check.dueFault(text, kind, place);
    }

    static void stands(String text) {
        BoardCrossing x = new BoardCrossing();
        Check.tell(x, text);
        due("fault(0) of \"" + text + "\"", 0, x.fault(0));
        due("fault(1) of \"" + text + "\"", -1, x.fault(1));
    }

    static BoardCrossing told(String text) {
        return Check.told(text);
    }

    /** All that can be seen without asking for more: some eighty calls. */
    static int[] look(BoardCrossing x) {
        List<Integer> all = new ArrayList<>();
        for (int what = 0; what <= 12; what++) {
            all.add(x.about(what));
        }
        for (int board = 0; board < 4; board++) {
            for (int what = 0; what <= 8; what++) {
                all.add(x.board(board, what));
            }
        }
        for (int i = 0; i < 7; i++) {
            all.add(x.load(i, 0));
            all.add(x.load(i, 1));
            all.add(x.lies(i));
        }
        all.add(x.fits(x.about(9)));
        return all.stream().mapToInt(Integer::intValue).toArray();
    }

    static void same(String call, int[] before, int[] after) {
        for (int i = 0; i < before.length; i++) {
            due(call + ", number " + i + " of what can be seen", before[i], after[i]);
        }
    }

    /** A call that is answered so and does nothing. */
    static void refused(String call, int answer, BoardCrossing x, ToIntFunction<BoardCrossing> made) {
        int[] before = look(x);
        due(call, answer, made.applyAsInt(x));
        same(call, before, look(x));
    }
}
