import java.io.IOException;
import java.nio.file.Files;
import java.nio.file.Path;
import java.util.ArrayList;
import java.util.LinkedHashMap;
import java.util.List;
import java.util.Map;

/**
 * The document's sentences, each with the runs that go wrong if it does not hold. It knows which sentences
 * have been quoted, and tells those of the document that have not.
 */
final class Bounds {
    private static final Path DOCUMENT = Path.of("../shared/DOC.md");

    private final Check check = new Check("BoundsTest");
    private final Map<String, List<String>> quotes = new LinkedHashMap<>();
    private String section = "";
    private String sentence = "";

    /** What follows is said under this heading. */
    void section(String heading) {
        section = heading;
        quotes.putIfAbsent(heading, new ArrayList<>());
    }

    /** A sentence of the document, or a part of one, and runs that show it. */
    void says(String quote, String... runs) {
        sentence = section + ", \"" + quote + "\"";
        quotes.get(section).add(plain(quote));
        for (String run : runs) {
            run(run);
        }
    }

    /** One more run for the sentence that was said last. */
    void run(String run) {
        Script.play(check, sentence + " [" + run + "]", run);
    }

    void due(String call, long got, long want) {
        check.due(sentence + ": " + call, got, want);
    }

    void holds(String what, boolean isSo) {
        check.holds(sentence + ": " + what, isSo);
    }

    /** A new object on which the run has been played. */
    CodeJudge after(String run) {
        CodeJudge judge = new CodeJudge();
        Script.begin(check, sentence, judge, run);
        return judge;
    }

    void end() throws IOException {
        compareWithDocument(Files.readString(DOCUMENT));
        check.end();
    }

    /** Quotation marks, list marks and line ends are left out, so that quotes are easy to write. */
    private static String plain(String text) {
        return text.replaceAll("[\"`]", "").replaceAll("(?m)^- ", "").replaceAll("\\s+", " ").trim();
    }

    private void compareWithDocument(String document) {
        Map<String, String> texts = sectionTexts(document);
        for (Map.Entry<String, List<String>> said : quotes.entrySet()) {
            String text = plain(texts.getOrDefault(said.getKey(), ""));
            for (String quote : said.getValue()) {
                check.holds("\"" + quote + "\" stands in the document under " + said.getKey(), text.contains(quote));
            }
        }
        for (Map.Entry<String, String> text : texts.entrySet()) {
            List<String> said = quotes.getOrDefault(text.getKey(), List.of());
            for (String clause : clauses(text.getValue())) {
                boolean quoted = said.stream().anyMatch(quote -> quote.contains(clause) || clause.contains(quote));
                check.holds("\"" + clause + "\" of " + text.getKey() + " has a test", quoted);
            }
        }
    }

    /** The texts by their headings ("What it is", "Description", "Promise 1" ..), without those that promise nothing. */
    private static Map<String, String> sectionTexts(String document) {
        Map<String, String> texts = new LinkedHashMap<>();
        for (String part : document.replaceAll("(?s)```.*?```", "").split("(?m)^## ")) {
            int lineEnd = part.indexOf('\n');
            String heading = part.substring(0, Math.max(0, lineEnd));
            if (!heading.startsWith("#") && !heading.equals("The public face") && !heading.equals("Not promised")) {
                texts.put(heading.replaceAll(":.*", ""), part.substring(lineEnd));
            }
        }
        return texts;
    }

    /** What stands between full stops and semicolons; examples, signatures and titles are no sentences. */
    private static List<String> clauses(String text) {
        List<String> clauses = new ArrayList<>();
        for (String paragraph : text.split("\n\\s*\n|\n(?=- )")) {
            String line = plain(paragraph);
            if (!line.matches("Examples:.*|----.*|(int|long) \\w+\\(.*\\)|CodeJudge\\(\\)|The constructor and .*")) {
                for (String clause : line.split("(?<=[.;]\\)?) ")) {
                    if (!clause.isEmpty()) {
                        clauses.add(clause.replaceAll("[.;:]$", ""));
                    }
                }
            }
        }
        return clauses;
    }
}
