import java.nio.file.Files;
import java.nio.file.Path;
import java.util.Arrays;
import java.util.Map;
import java.util.TreeMap;
import java.util.regex.Matcher;
import java.util.regex.Pattern;

/**
 * Sentences of the document, each with the number of the promise that it bounds, and what a new object answers there.
 * A sentence must stand in the document as it is quoted; which words of the document no test quotes is told at the end.
 */
final class Sentences {
    /** What the document says: the terms (0), each promise by its number, and what it is (-1). */
    private static final Map<Integer, String> parts = new TreeMap<>();
    private static final Map<Integer, boolean[]> quoted = new TreeMap<>();
    private static final int TERMS = 0, WHAT_IT_IS = -1, NEAR_PROMISES = 35;

    private static int passed, failed, promise;
    private static String sentence = "";
    private static boolean[] borne = new boolean[NEAR_PROMISES + 1];
    /** The object that is asked; a new one for every sentence. */
    static CordPocket x;

    static void read(Path document) throws Exception {
        if (!Files.exists(document)) {
            System.out.println(document + " is not there: the sentences are not compared with it");
            return;
        }
        for (String section : Files.readString(document).split("(?m)^## ")) {
            String title = section.substring(0, Math.max(0, section.indexOf('\n')));
            Matcher number = Pattern.compile("Promise (\\d+):.*").matcher(title);
            String text = plain(section.substring(title.length()));
            if (number.matches()) parts.put(Integer.parseInt(number.group(1)), text);
            else if (title.equals("Terms")) parts.put(TERMS, text);
            else if (title.equals("What it is")) parts.put(WHAT_IT_IS, text);
        }
        parts.forEach((part, text) -> quoted.put(part, new boolean[text.length()]));
    }

    /** Without the marks around it, and with single blanks. */
    private static String plain(String text) {
        return text.replaceAll("```(text)?", "").replaceAll("======== \\d", "").replaceAll("\\s+", " ").trim();
    }

    /** Begins a test that bears the promise's number and a sentence that names its bounds. */
    static void says(int number, String words) {
        promise = number;
        sentence = words;
        borne[number] = true;
        x = new CordPocket();
        quote(number, words);
    }

    /** The same sentence with another new object. */
    static void anew() {
        x = new CordPocket();
    }

    /** Words that bound nothing: other tests ask for what they say. */
    static void namesNoBound(int number, String words) {
        promise = number;
        sentence = words;
        quote(number, words);
    }

    private static void quote(int number, String words) {
        if (parts.isEmpty()) return;
        boolean found = false;
        for (int part : new int[] {number, TERMS, WHAT_IT_IS}) {
            String text = parts.getOrDefault(part, "");
            for (int at = text.indexOf(words); at >= 0; at = text.indexOf(words, at + 1)) {
                Arrays.fill(quoted.get(part), at, at + words.length(), true);
                found = true;
            }
            if (found) break;
        }
        if (!found) fail("the document does not say so");
    }

    static void due(long want, long got) {
        if (got == want) passed++;
        else fail("answered " + got + ", due is " + want);
    }

    private static void fail(String what) {
        failed++;
        StringBuilder where = new StringBuilder();
        for (StackTraceElement e : new Throwable().getStackTrace()) {
            if (e.getClassName().equals("Sentences")) continue;
            where.append(where.length() == 0 ? "" : " < ").append(e.getFileName()).append(':').append(e.getLineNumber());
        }
        System.out.println("promise " + promise + ", \"" + sentence + "\", " + where + ": " + what);
    }

    /** Fails for words of the document that no test quotes, and for promises without a sentence. */
    static int end() {
        for (int number = 1; number <= NEAR_PROMISES; number++) {
            promise = number;
            sentence = "";
            if (!borne[number]) fail("no sentence of it is borne by a test");
        }
        parts.forEach((part, text) -> {
            promise = part;
            Matcher signature = Pattern.compile("^`[^`]*`:?").matcher(text);
            if (signature.find()) Arrays.fill(quoted.get(part), 0, signature.end(), true);
            for (int at = 0; at < text.length(); at++) {
                if (quoted.get(part)[at] || !Character.isLetterOrDigit(text.charAt(at))) continue;
                int end = at;
                while (end < text.length() && !quoted.get(part)[end]) end++;
                sentence = text.substring(at, end);
                fail("no test quotes it");
                at = end;
            }
        });
        System.out.println("BoundaryTest: " + passed + " passed, " + failed + " failed");
        return failed;
    }

    // ---- what the tests do again and again

    static void tape(String text) {
        tapeOn(x, text);
    }

    static void tapeOn(CordPocket pocket, String text) {
        int k = 0;
        while (k < text.length()) {
            int n = Math.min(4, text.length() - k);
            int v = 0;
            for (int i = 0; i < n; i++) v |= (text.charAt(k + i) & 255) << 8 * i;
            pocket.feed(n, v);
            k += n;
        }
    }

    static int picture(String text) {
        tape(text);
        return x.picture();
    }

    static int plait(String word, int m) {
        tape(word);
        return x.plait(m);
    }

    static int law(String text) {
        tape(text);
        return x.law();
    }

    /** Plain rings till there are 12 pictures; what is on the tape is gone then. */
    static void fillPictures() {
        if (x.count(1) != 0) x.law();
        for (int i = x.count(0); i < 12; i++) x.picture();
    }

    static void put(int shelf, int from, int... elements) {
        for (int k = 0; k < elements.length; k++) x.put(shelf, from + k, elements[k]);
    }

    static void rowOf(int shelf, int sort, int... elements) {
        x.row(shelf, sort, elements.length);
        put(shelf, 0, elements);
    }

    static void hasElements(int shelf, long... want) {
        for (int i = 0; i < want.length; i++) due(want[i], x.element(shelf, i));
        due(Long.MIN_VALUE, x.element(shelf, want.length));
    }

    /** The visits of a picture, each as led with what 0 tells it. */
    static void hasVisits(int picture, int... want) {
        for (int k = 0; k < want.length; k++) due(want[k], x.led(picture, k, 0));
        due(CordPocket.VOID, x.led(picture, want.length, 0));
    }

    private Sentences() { }
}
