import java.io.IOException;
import java.nio.file.Files;
import java.nio.file.Path;
import java.util.ArrayList;
import java.util.List;
import java.util.regex.Matcher;
import java.util.regex.Pattern;

/**
 * Each sentence of the document that names a boundary case has a test of its own, which quotes it. The
 * document itself is looked at, too: the quotes must stand in it, and none of the sentences may be left out.
 */
public final class EdgeTest {
    private static final Path DOCUMENT = Path.of("../shared/DOC.md");
    private static final int PROMISES = 30;

    public static void main(String[] args) throws IOException {
        try {
            runAll();
        } catch (RuntimeException thrown) {
            Edges.fail("a call threw " + thrown);
        }
        int missing = missing(Files.readString(DOCUMENT));
        if (Edges.wrong() + missing != 0) {
            System.exit(1);
        }
    }

    private static void runAll() {
        TextEdges.run();
        PieceEdges.run();
        SetEdges.run();
        BuildingEdges.run();
    }

    private static int missing(String document) {
        int missing = 0;
        String terms = between(document, "\n## Terms", "\nAhead of the calls");
        missing += unquoted(Edges.TERMS, sentencesOf(terms));
        missing += misquoted(Edges.TERMS, plain(between(document, "", "\n## Promise 1:")));
        for (int promise = 1; promise <= PROMISES; promise++) {
            String section = between(document, "\n## Promise " + promise + ":", "\n## ");
            missing += unquoted(promise, boundariesOf(section));
            missing += misquoted(promise, plain(section));
        }
        return missing;
    }

    /** Sentences that no test quotes, wholly or in part. */
    private static int unquoted(int promise, List<String> parts) {
        int missing = 0;
        for (String part : parts) {
            boolean found = false;
            for (Edges.Sentence sentence : Edges.sentences()) {
                String quote = plain(sentence.quote());
                found |= sentence.promise() == promise && (quote.contains(part) || part.contains(quote));
            }
            if (!found) {
                missing++;
                System.out.println("no test for promise " + promise + " (0: Terms), \"" + part + "\"");
            }
        }
        return missing;
    }

    private static int misquoted(int promise, String words) {
        int missing = 0;
        for (Edges.Sentence sentence : Edges.sentences()) {
            if (sentence.promise() == promise && !words.contains(plain(sentence.quote()))) {
                missing++;
                System.out.println("promise " + promise + " (0: Terms) does not say \"" + sentence.quote() + "\"");
            }
        }
        return missing;
    }

    /** The paragraph that only introduces the terms names no boundary. */
    private static List<String> sentencesOf(String terms) {
        int introduction = terms.indexOf("Space consists");
        List<String> sentences = new ArrayList<>();
        for (String sentence : plain(terms.substring(introduction)).split("(?<=\\.\\)?) (?=[A-Z(])")) {
            sentences.add(sentence);
        }
        return sentences;
    }

    /** What a promise returns, part by part, and the ranges of its arguments. */
    private static List<String> boundariesOf(String section) {
        List<String> parts = new ArrayList<>();
        Matcher returned = Pattern.compile("(?m)^Returns .*$").matcher(section);
        while (returned.find()) {
            for (String part : returned.group().split("; ")) {
                parts.add(plain(part).replaceAll("\\.$", ""));
            }
        }
        Matcher range = Pattern.compile("(?m)^- `\\w+`: (.*[0-9].*)$").matcher(section);
        while (range.find()) {
            parts.add(plain(range.group(1)));
        }
        return parts;
    }

    private static String between(String text, String from, String to) {
        int start = text.indexOf(from) + from.length();
        int end = text.indexOf(to, start);
        return text.substring(start, end);
    }

    private static String plain(String text) {
        return text.replaceAll("\\s+", " ").strip();
    }
}
