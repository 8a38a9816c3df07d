import java.io.IOException;
import java.nio.file.Files;
import java.nio.file.Path;
import java.util.ArrayList;
import java.util.List;
import java.util.regex.Matcher;
import java.util.regex.Pattern;

/**
 * Answers held against sentences of the document. A test names the promise and the sentence that it is about in the
 * document's own words; at the end there must be no sentence of What it is, the Terms or a promise that no test has named.
 */
final class Sentences {
    private static final int PROMISES = 36, TERMS = 0, WHAT_IT_IS = PROMISES + 1, PLACES = PROMISES + 2;

    private final String[] texts = new String[PLACES];
    private final boolean[][] isNamed = new boolean[PLACES][];
    private final List<String> unanswered = new ArrayList<>();
    private String current = "";
    private int sentences = 0;
    private int told = 0;
    private int wrong = 0;

    Sentences(Path document) throws IOException {
        String text = Files.readString(document);
        texts[TERMS] = plain(between(text, "\n## Terms\n", "\n## ").replaceAll("Ahead of the calls [^\n]*", ""));
        for (int p = 1; p <= PROMISES; p++) {
            String section = between(text, "\n## Promise " + p + ":", "\n## ");
            texts[p] = plain(section.substring(section.indexOf("`:") + 2));
        }
        texts[WHAT_IT_IS] = plain(between(text, "\n## What it is\n", "\n## "));
        for (int p = 0; p < PLACES; p++) isNamed[p] = new boolean[texts[p].length()];
    }

    private static String between(String text, String begin, String end) {
        int from = text.indexOf(begin);
        if (from < 0) throw new IllegalStateException("the document has no " + begin.trim());
        int to = text.indexOf(end, from + begin.length());
        return text.substring(from + begin.length(), to < 0 ? text.length() : to);
    }

    /** Without the marks of the page: fences, and the bars with a number that begin a chapter. */
    private static String plain(String text) {
        return text.replaceAll("```(text)?", "").replaceAll("======== \\d", "").replaceAll("\\s+", " ").trim();
    }

    /** What is told next is about a sentence of a promise, or of the Terms as that promise shows it. */
    void of(int promise, String sentence) {
        begin(promise, sentence, isFound(promise, sentence) || isFound(TERMS, sentence));
    }

    /** What is told next is about a sentence of What it is. */
    void ofWhole(String sentence) {
        begin(WHAT_IT_IS, sentence, isFound(WHAT_IT_IS, sentence));
    }

    private void begin(int where, String sentence, boolean isSaid) {
        current = nameOf(where) + ", \"" + sentence + "\"";
        sentences++;
        unanswered.add(current);
        if (!isSaid) {
            wrong++;
            System.out.println(current + ": the document does not say so");
        }
    }

    private static String nameOf(int where) {
        return where == TERMS ? "Terms" : where == WHAT_IT_IS ? "What it is" : "promise " + where;
    }

    private boolean isFound(int where, String sentence) {
        Matcher m = Pattern.compile(Pattern.quote(sentence)).matcher(texts[where]);
        boolean isFound = false;
        while (m.find()) {
            isFound = true;
            for (int i = m.start(); i < m.end(); i++) isNamed[where][i] = true;
        }
        return isFound;
    }

    void is(String call, long got, long want) {
        told++;
        unanswered.remove(current);
        if (got != want) {
            wrong++;
            System.out.println(current + ": " + call + " answered " + got + ", due is " + want);
        }
    }

    /** Several calls, all of which have the same answer. */
    void all(String calls, long want, long... got) {
        for (int i = 0; i < got.length; i++) is(calls + ", " + (i + 1), got[i], want);
    }

    /** Several calls, each with its answer. */
    void each(String calls, long[] got, long... want) {
        is(calls + ", how many", got.length, want.length);
        for (int i = 0; i < got.length && i < want.length; i++) is(calls + ", " + i, got[i], want[i]);
    }

    /** What was refused since the snapshot has changed nothing. */
    void same(String snapshot, TrueLedger x) {
        is("whether nothing has changed", snapshot.equals(snapshot(x)) ? 1 : 0, 1);
    }

    private void findUnnamed() {
        for (int p = 0; p < PLACES; p++) {
            StringBuilder rest = new StringBuilder();
            for (int i = 0; i < texts[p].length(); i++) rest.append(isNamed[p][i] ? ' ' : texts[p].charAt(i));
            for (String words : rest.toString().split(" {2,}")) {
                if (!words.matches(".*[A-Za-z0-9].*")) continue;
                wrong++;
                System.out.println(nameOf(p) + ": no test names \"" + words.trim() + "\"");
            }
        }
    }

    void end() {
        findUnnamed();
        for (String sentence : unanswered) {
            wrong++;
            System.out.println(sentence + ": nothing was asked of it");
        }
        System.out.println("SentencesTest: " + sentences + " sentences, " + told + " answers, " + wrong + " not as due");
        if (wrong != 0) System.exit(1);
    }

    /** All that can be read of an object, but what the FINDING was: refused calls leave it as it was. */
    static String snapshot(TrueLedger x) {
        StringBuilder all = new StringBuilder().append(x.digest());
        for (int c = 0; c < x.count(1); c++) {
            for (int i = 0; i < x.about(c, 1); i++) all.append(' ').append(x.logged(c, i));
        }
        for (int s = 0; s < 4; s++) {
            for (int type = 0; type < 3; type++) {
                for (int i = 0; i < 40 && x.get(s, type, i) != Integer.MIN_VALUE; i++) {
                    all.append(i == 0 ? "; " + s + " " + type + ":" : "").append(' ').append(x.get(s, type, i));
                }
            }
        }
        return all.toString();
    }
}
