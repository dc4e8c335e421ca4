import java.nio.charset.StandardCharsets;
import java.nio.file.Files;
import java.nio.file.Path;
import java.util.TreeMap;

/**
 * What the tests of boundaries share. Each check stands under a sentence of the document; at the end every sentence
 * must stand there as it is cited, must have checks, and no part of a promise may be left without any.
 */
final class Checks {
    static final int BAD = -1, STATE = -2, FULL = -3, NONE = -4;
    static final int LOW = Integer.MIN_VALUE, HIGH = Integer.MAX_VALUE;
    /** No call that asks 'what' or for a number of something has these: far off, and where what - 10 wraps around. */
    static final int[] FAR = {LOW, LOW + 1, LOW + 9, LOW + 10, LOW + 11, -11, -10, -2, -1, 100, 1000, HIGH - 1, HIGH};
    /** The number of the promise that stands for the document's terms. */
    static final int TERMS = 0;

    private static final Path DOCUMENT = Path.of("../shared/DOC.md");

    private final TreeMap<Integer, String> texts = new TreeMap<>();
    private final TreeMap<Integer, boolean[]> cited = new TreeMap<>();
    private int promise = TERMS;
    private String sentence = "";
    private int checksHere = 1;
    private int checks;
    private int sentences;
    private int wrong;

    Checks() throws java.io.IOException {
        if (!Files.exists(DOCUMENT)) {
            System.out.println("no document at " + DOCUMENT + ": what is cited is not looked up");
            return;
        }
        String text = Files.readString(DOCUMENT, StandardCharsets.UTF_8);
        text = text.replace("&lt;", "<").replace("&gt;", ">").replaceAll("\\s+", " ");
        texts.put(TERMS, between(text, "## Terms ", " ## Promise 1:"));
        for (int n = 1; n <= 35; n++) {
            String whole = between(text, "## Promise " + n + ": ", n < 35 ? " ## Promise " + (n + 1) + ":" : " ## Not promised");
            texts.put(n, between(whole, "`: ", ""));
        }
    }

    private static String between(String text, String from, String to) {
        int start = text.indexOf(from);
        int end = to.isEmpty() ? text.length() : text.indexOf(to);
        return start < 0 || end < start ? "" : text.substring(start + from.length(), end);
    }

    /** What follows holds this sentence. */
    void at(int itsPromise, String words) {
        closeSentence();
        promise = itsPromise;
        sentence = words;
        sentences++;
        checksHere = 0;
        String text = texts.get(promise);
        if (text == null) return;
        boolean[] marks = cited.computeIfAbsent(promise, n -> new boolean[text.length()]);
        int found = text.indexOf(words);
        if (found < 0) fail("does not stand in the document");
        for (; found >= 0; found = text.indexOf(words, found + 1)) {
            for (int i = 0; i < words.length(); i++) marks[found + i] = true;
        }
    }

    void due(String what, long got, long want) {
        checks++;
        checksHere++;
        if (got != want) fail(what + " answered " + got + ", due is " + want);
    }

    private void fail(String what) {
        wrong++;
        System.out.println((promise == TERMS ? "terms" : "promise " + promise) + ", '" + sentence + "': " + what);
    }

    private void closeSentence() {
        if (checksHere == 0) fail("has no check");
    }

    /** All words of these promises must be cited by now. */
    void wholly(int first, int last) {
        closeSentence();
        checksHere = 1;
        for (int n = first; n <= last; n++) {
            String text = texts.get(n);
            if (text == null) continue;
            StringBuilder left = new StringBuilder();
            boolean[] marks = cited.getOrDefault(n, new boolean[text.length()]);
            for (int i = 0; i < text.length(); i++) left.append(marks[i] ? ' ' : text.charAt(i));
            promise = n;
            sentence = left.toString().replaceAll("[\\s.,;:]+", " ").trim();
            if (!sentence.isEmpty()) fail("is cited by no check");
        }
    }

    void finish() {
        closeSentence();
        System.out.println(checks + " checks of " + sentences + " sentences, " + wrong + " wrong");
        if (wrong > 0) System.exit(1);
    }

    // ---- what is built

    static void feedText(PairedComing x, String text) {
        for (int i = 0; i < text.length(); i += 8) x.feed(eight(text, i));
        x.end(text.length());
    }

    /** Eight bytes of a text, blanks behind its end, the first the highest. */
    static long eight(String text, int from) {
        long v = 0;
        for (int j = from; j < from + 8; j++) v = v << 8 | (j < text.length() ? text.charAt(j) : ' ');
        return v;
    }

    static int tell(PairedComing x, String text) {
        x.end(0);
        feedText(x, text);
        return x.rule();
    }

    /** Posts of the rooms told, rank as their number, with all the budget there may be. */
    static PairedComing posts(int... rooms) {
        PairedComing x = new PairedComing();
        for (int p = 0; p < rooms.length; p++) x.post(rooms[p], p, 999);
        return x;
    }

    static int guest(PairedComing x, int... worths) {
        int g = x.guest();
        for (int p = 0; p < worths.length; p++) x.worth(g, p, worths[p]);
        return g;
    }

    static void guests(PairedComing x, int howMany, int... worths) {
        for (int i = 0; i < howMany; i++) guest(x, worths);
    }
}
