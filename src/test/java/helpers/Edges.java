import java.io.IOException;
import java.nio.charset.StandardCharsets;
import java.nio.file.Files;
import java.nio.file.Path;

/**
 * What the tests of boundary cases share. Each sentence is told with its promise ahead of the answers that are due by
 * it; it must stand in the document under that promise, or in the terms that all promises share.
 */
final class Edges {
    static final int NONE = -1;
    static final int UNLIKED = -99000002;
    /** Numbers that are no beck, river, tray, image, what: too small, too large, at the ends of all ints. */
    static final int[] OUTSIDE = {-1, -2, 100, 1 << 16, Integer.MAX_VALUE, Integer.MIN_VALUE, Integer.MIN_VALUE + 9};

    private static final int SHOWN_MOST = 40;
    private static final Path DOCUMENT = Path.of("../shared/DOC.md");

    private final String document = document();
    private int promise;
    private String sentence = "";
    private int answersOfSentence = 1;
    private int sentences;
    private int answers;
    private int wrong;

    private static String document() {
        try {
            return flat(Files.readString(DOCUMENT, StandardCharsets.UTF_8));
        } catch (IOException e) {
            return "";
        }
    }

    private static String flat(String text) {
        return text.replaceAll("\\s+", " ");
    }

    private String partOf(String from, String to) {
        int start = document.indexOf(from);
        int end = start < 0 ? -1 : document.indexOf(to, start + from.length());
        return start < 0 || end < 0 ? "" : document.substring(start, end);
    }

    /** The answers that follow are due by this sentence. */
    void says(int ofPromise, String words) {
        endSentence();
        promise = ofPromise;
        sentence = words;
        sentences++;
        answersOfSentence = 0;
        String terms = partOf("## What it is", "## Promise 1:");
        String part = partOf("## Promise " + ofPromise + ":", ofPromise == 46 ? "## Not promised" : "## Promise");
        // Without the document its words can't be looked up, but what they ask for can still be tested.
        if (!document.isEmpty() && !terms.contains(flat(words)) && !part.contains(flat(words))) {
            fail("the document doesn't say so");
        }
    }

    private void endSentence() {
        if (answersOfSentence == 0) {
            fail("nothing is tested by it");
        }
    }

    private void fail(String what) {
        wrong++;
        if (wrong > SHOWN_MOST) {
            return;
        }
        System.out.println("promise " + promise + ", \"" + sentence + "\": " + what);
    }

    void due(String call, long got, long want) {
        answers++;
        answersOfSentence++;
        if (got != want) {
            fail(call + " answered " + got + ", due is " + want);
        }
    }

    /** What a test's main method ends with. */
    void end() {
        endSentence();
        System.out.println(sentences + " sentences, " + answers + " answers, "
            + (wrong == 0 ? "all as due" : wrong + " not as due"));
        if (wrong != 0 && Boolean.getBoolean("edges.throw")) {
            throw new IllegalStateException("not as due");
        }
        if (wrong != 0) {
            System.exit(1);
        }
    }

    /** Feeds a text with blanks behind it: how many bytes the tape has then. */
    static int feed(BeckChoice x, String text) {
        int n = x.count(7);
        for (int i = 0; i < text.length(); i += 20) {
            int[] v = new int[5];
            for (int j = 0; j < 20; j++) {
                int c = i + j < text.length() ? text.charAt(i + j) : 32;
                v[j / 4] = v[j / 4] << 8 | c & 255;
            }
            n = x.feed(v[0], v[1], v[2], v[3], v[4]);
        }
        return n;
    }

    static int land(BeckChoice x, String text) {
        feed(x, text);
        return x.land(text.length());
    }

    /** A new object with this land. */
    BeckChoice of(String text) {
        BeckChoice x = new BeckChoice();
        int lines = land(x, text);
        if (lines < 1) {
            fail("land of " + text + " answered " + lines + " at " + x.fault(1));
        }
        return x;
    }

    /** A tray of 64 bits with these numbers. */
    static void tray(BeckChoice x, int tray, long... numbers) {
        x.numbers(tray, 3, numbers.length);
        for (int i = 0; i < numbers.length; i++) {
            x.write(tray, i, numbers[i]);
        }
    }

    /** The text ^ is taken out of is faulty just where it stood. */
    void faulty(String marked, int fault) {
        int place = marked.indexOf('^');
        String text = marked.substring(0, place) + marked.substring(place + 1);
        BeckChoice x = new BeckChoice();
        due("land of " + text, land(x, text), -30 - fault);
        due("fault(0) of " + text, x.fault(0), fault);
        due("fault(1) of " + text, x.fault(1), place);
    }

    void fine(String text, int lines) {
        BeckChoice x = new BeckChoice();
        due("land of " + text, land(x, text), lines);
        due("fault(0) of " + text, x.fault(0), 0);
        due("fault(1) of " + text, x.fault(1), NONE);
    }

    /** All that deeds can change is the same, and what is liked by it. */
    void same(String when, BeckChoice x, BeckChoice y) {
        for (int b = 0; b < 6; b++) {
            for (int what = 0; what < 5; what++) {
                due("beck(" + b + ", " + what + ") " + when, x.beck(b, what), y.beck(b, what));
            }
            for (int r = 0; r < 4; r++) {
                due("gifts(" + r + ", " + b + ") " + when, x.gifts(r, b), y.gifts(r, b));
                due("likes(" + b + ", " + r + ") " + when, x.likes(b, r), y.likes(b, r));
                due("takes(" + r + ", " + b + ") " + when, x.takes(r, b), y.takes(r, b));
            }
        }
        for (int r = 0; r < 4; r++) {
            for (int what = 0; what < 6; what++) {
                due("river(" + r + ", " + what + ") " + when, x.river(r, what), y.river(r, what));
            }
        }
    }

    static String times(int n, String text) {
        return text.repeat(n);
    }
}
