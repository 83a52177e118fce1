import java.io.IOException;
import java.io.UncheckedIOException;
import java.nio.charset.StandardCharsets;
import java.nio.file.Files;
import java.nio.file.Path;
import java.util.function.IntUnaryOperator;
import java.util.regex.Matcher;
import java.util.regex.Pattern;

/**
 * The document's own sentences, each with the answers that it asks for. A test of an edge first quotes
 * the sentence that it holds to; the end tells which words of the document nobody quoted, and which
 * quotes were followed by no question. Run from the project's root.
 */
final class Document {
    private static final Path FILE = Path.of("../shared/DOC.md");
    private static final int PARTS = 6, PROMISES = 47;
    private final Due due = new Due();
    /** The parts of 'Terms' from the words ahead of the first on, then the promises. */
    private final String[] sections = new String[PARTS + PROMISES];
    private final boolean[][] quoted = new boolean[PARTS + PROMISES][];
    private final boolean atHand = Files.exists(FILE);
    private String where = "";
    private int askedHere = 1;

    Document() {
        String text = atHand ? read() : "";
        splitTerms(text);
        splitPromises(text);
        for (int i = 0; i < sections.length; i++) {
            sections[i] = sections[i] == null ? "" : sections[i].replaceAll("```(text)?", " ").replaceAll("\\s+", " ").trim();
            quoted[i] = new boolean[sections[i].length()];
            due.holds("the document has section " + nameOf(i), !atHand || !sections[i].isEmpty());
        }
    }

    private static String read() {
        try {
            return Files.readString(FILE, StandardCharsets.ISO_8859_1);
        } catch (IOException e) {
            throw new UncheckedIOException(e);
        }
    }

    private void splitTerms(String text) {
        Matcher terms = Pattern.compile("(?s)## Terms\n(.*?)\nAhead of the calls").matcher(text);
        String[] parts = terms.find() ? terms.group(1).split("======== \\d ") : new String[0];
        due.holds("the terms have five parts", !atHand || parts.length == PARTS);
        System.arraycopy(parts, 0, sections, 0, Math.min(PARTS, parts.length));
    }

    private void splitPromises(String text) {
        Matcher promise = Pattern.compile("## Promise (\\d+): [^\n]*\n\n`[^`]*`: ([^\n]*)\n").matcher(text);
        int found = 0;
        while (promise.find() && found < PROMISES) {
            sections[PARTS + found] = promise.group(2);
            found++;
            due.is("the promises stand in order", Integer.parseInt(promise.group(1)), found);
        }
        due.holds("there are 47 promises", !atHand || found == PROMISES && !promise.find());
    }

    private static String nameOf(int section) {
        return section < PARTS ? "terms " + section : "promise " + (section - PARTS + 1);
    }

    /** What is asked from here on is asked by this sentence of a part of the terms. */
    void term(int part, String sentence) {
        quote(part, sentence);
    }

    /** What is asked from here on is asked by this sentence of a promise. */
    void promise(int promise, String sentence) {
        quote(PARTS + promise - 1, sentence);
    }

    private void quote(int section, String sentence) {
        endOfSentence();
        where = nameOf(section) + " '" + sentence + "' ";
        askedHere = 0;
        int at = sections[section].indexOf(sentence);
        due.holds(where + "stands in the document", !atHand || at >= 0);
        for (int i = 0; at >= 0 && i < sentence.length(); i++) {
            quoted[section][at + i] = true;
        }
    }

    private void endOfSentence() {
        due.holds(where + "has a test of its own", askedHere > 0);
    }

    void is(String call, long got, long want) {
        askedHere++;
        due.is(where + call, got, want);
    }

    /** A number at both ends of its range, and right outside and far outside them. */
    void edges(String call, int refusal, int low, int high, IntUnaryOperator ask, int atLow, int atHigh) {
        is(call + " lowest", ask.applyAsInt(low), atLow);
        is(call + " highest", ask.applyAsInt(high), atHigh);
        is(call + " too small", ask.applyAsInt(low - 1), refusal);
        is(call + " too large", ask.applyAsInt(high + 1), refusal);
        is(call + " far too small", ask.applyAsInt(Integer.MIN_VALUE), refusal);
        is(call + " far too large", ask.applyAsInt(Integer.MAX_VALUE), refusal);
    }

    /** To be called last. */
    void end() {
        endOfSentence();
        for (int i = 0; i < sections.length; i++) {
            StringBuilder left = new StringBuilder();
            for (int k = 0; k < sections[i].length(); k++) {
                left.append(quoted[i][k] ? ' ' : sections[i].charAt(k));
            }
            due.is(nameOf(i) + " not quoted: " + left.toString().replaceAll(" +", " "), left.toString().isBlank() ? 0 : 1, 0);
        }
        if (!atHand) {
            System.out.println("no " + FILE + " here: the quotes were not looked up");
        }
        due.end();
    }
}
