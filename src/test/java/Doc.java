import java.io.IOException;
import java.nio.file.Files;
import java.nio.file.Path;
import java.util.BitSet;
import java.util.TreeSet;
import java.util.regex.Matcher;
import java.util.regex.Pattern;

/** The document's own words: a test of an edge names the promise and quotes the sentence whose break it would find. */
final class Doc {
    private static final Path FILE = Path.of("../shared/DOC.md");
    private static final int PROMISES = 45;
    // By these words and numbers a sentence names a boundary case.
    private static final Pattern MARKS = Pattern.compile("\\d+ to \\d+|at most|at least|at first|\\bnone\\b|\\bNONE\\b|below"
        + "|above|rounded|empty|alone|fewer|\\bfirst\\b|goes round|Exception:|[Nn]othing|not looked at|aslant|\\bjust\\b|never"
        + "|\\balso\\b|\\bbut\\b|\\bonce\\b|without|already|wherever|remembered|as many as");

    private static final String WORDS = words();
    private static final BitSet QUOTED = new BitSet();
    private static final TreeSet<Integer> NAMED = new TreeSet<>();
    private static String said = "";
    private static int duesOfSaid = 1;

    private Doc() {
    }

    /** Terms and promises as one line, without the lines that name a method. */
    private static String words() {
        try {
            String all = Files.readString(FILE);
            String told = all.substring(all.indexOf("An object is used"), all.indexOf("## Not promised"));
            return told.replaceAll("(?s)```java.*?```", "").replaceAll("(?m)^```\\w*$", "").replaceAll("`[^`]*`:", "").replaceAll("\\s+", " ");
        } catch (IOException e) {
            throw new IllegalStateException(e);
        }
    }

    static void says(String quote, int... promises) {
        Check.due("checks of: " + said, duesOfSaid > 0, true);
        int at = WORDS.indexOf(quote);
        Check.due("the document says: " + quote, at >= 0, true);
        while (at >= 0) {
            QUOTED.set(at, at + quote.length());
            at = WORDS.indexOf(quote, at + 1);
        }
        StringBuilder named = new StringBuilder(promises.length > 1 ? "Promises" : "Promise");
        for (int promise : promises) {
            NAMED.add(promise);
            named.append(' ').append(promise);
        }
        said = named + ", \"" + quote + "\"";
        duesOfSaid = 0;
    }

    static void due(String what, Object want, Check.Call call) {
        duesOfSaid++;
        Check.due(said + ": " + what, want, call);
    }

    /** Each sentence with such a mark has been quoted, each promise been named. */
    static void isWhole() {
        Check.due("checks of: " + said, duesOfSaid > 0, true);
        for (int promise = 1; promise <= PROMISES; promise++) {
            Check.due("promise " + promise + " has edges", NAMED.contains(promise), true);
        }
        Matcher marks = MARKS.matcher(WORDS);
        while (marks.find()) {
            int from = Math.max(0, marks.start() - 40);
            int to = Math.min(WORDS.length(), marks.end() + 40);
            boolean quoted = QUOTED.nextClearBit(marks.start()) >= marks.end();
            Check.due("a test of '" + marks.group() + "' in: " + WORDS.substring(from, to), quoted, true);
        }
    }
}
