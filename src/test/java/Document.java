import java.io.IOException;
import java.nio.file.Files;
import java.nio.file.Path;

/**
 * The document's own words: a test names the sentence that it is for, a wrong answer is told with
 * that sentence, and a sentence that no test has named is told at the end.
 */
final class Document {
    private static final Path FILE = Path.of("../shared/DOC.md");
    private static final int PROMISES = 32;

    private final Check check = new Check();
    /** The terms at 0, each promise at its number; white space is folded. */
    private final String[] words = new String[PROMISES + 1];
    private final boolean[][] named = new boolean[PROMISES + 1][];
    private String sentence = "";
    private int sentences = 0;
    private int answersOfSentence = 1;

    Document() throws IOException {
        String all = Files.readString(FILE);
        String first = between(all, "======== 1 PLACES", "\n");
        String terms = between(all, "## Terms", "## Promise 1:").replaceAll("(?m)^Ahead of the calls .*$", "");
        String use = "An object is used" + between(all, "An object is used", "\n");
        keep(0, use + " 1 PLACES" + first + " " + terms);
        for (int n = 1; n <= PROMISES; n++) {
            String end = n == PROMISES ? "## Not promised" : "## Promise " + (n + 1) + ":";
            keep(n, between(all, "## Promise " + n + ":", end).replaceFirst("(?s)^.*?`[^`]*`:", ""));
        }
    }

    private static String between(String all, String start, String end) {
        int from = all.indexOf(start);
        int to = from < 0 ? -1 : all.indexOf(end, from);
        if (to < 0) {
            throw new IllegalStateException("the document has no part from \"" + start + "\" to \"" + end + "\"");
        }
        return all.substring(from + start.length(), to);
    }

    private void keep(int part, String text) {
        words[part] = text.replace("```text", "").replace("```", "").replace("========", "")
                .replaceAll("\\s+", " ").trim();
        named[part] = new boolean[words[part].length()];
    }

    /** What follows is a test of this sentence of the terms. */
    void says(String quote) {
        name(0, quote);
    }

    /** What follows is a test of this sentence of a promise. */
    void promise(int number, String quote) {
        name(number, quote);
    }

    private void name(int part, String quote) {
        closeSentence();
        sentence = (part == 0 ? "\"" : "promise " + part + " \"") + quote + "\": ";
        sentences++;
        answersOfSentence = 0;
        int at = words[part].indexOf(quote);
        check.due(sentence + "the document has it", at >= 0 ? 1 : 0, 1);
        check.due(sentence + "the document has it once", words[part].indexOf(quote, at + 1), -1);
        for (int i = 0; i < quote.length() && at >= 0; i++) {
            named[part][at + i] = true;
        }
    }

    private void closeSentence() {
        if (answersOfSentence == 0) {
            check.due(sentence + "answers that test it", 0, 1);
        }
    }

    void due(String call, long got, long want) {
        answersOfSentence++;
        check.due(sentence + call, got, want);
    }

    void same(String what, String got, String want) {
        answersOfSentence++;
        check.due(sentence + what + " (" + got + " for " + want + ")", got.equals(want) ? 1 : 0, 1);
    }

    void close(String name) {
        closeSentence();
        for (int part = 0; part <= PROMISES; part++) {
            tellUnnamed(part);
        }
        System.out.println(name + ": " + sentences + " sentences");
        check.close(name);
    }

    private void tellUnnamed(int part) {
        StringBuilder left = new StringBuilder();
        for (int i = 0; i < words[part].length(); i++) {
            left.append(named[part][i] ? ' ' : words[part].charAt(i));
        }
        String rest = left.toString().replaceAll("\\s+", " ").trim();
        check.due("words of part " + part + " that no test names: " + rest, rest.length(), 0);
    }
}
