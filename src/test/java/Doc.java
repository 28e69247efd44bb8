import java.io.IOException;
import java.io.UncheckedIOException;
import java.nio.file.Files;
import java.nio.file.Path;
import java.util.ArrayList;
import java.util.LinkedHashMap;
import java.util.List;
import java.util.Map;

/**
 * The sentences of the document. A test quotes those that it would see broken; a quote that the
 * document does not have, and a sentence that no test quotes, are both told as wrong.
 */
final class Doc {
    private static final Path DOCUMENT = Path.of("../shared/DOC.md");
    private static final String DESCRIPTION = "Description";
    private static final String FACE = "The public face";
    private static final Map<String, List<String>> SENTENCES = read();
    private static final Map<String, List<String>> QUOTES = new LinkedHashMap<>();

    private Doc() {
    }

    private static Map<String, List<String>> read() {
        Map<String, List<String>> all = new LinkedHashMap<>();
        String section = "";
        try {
            for (String line : Files.readAllLines(DOCUMENT)) {
                String bare = plain(line);
                if (bare.startsWith("## ")) {
                    section = bare.substring(3).replaceAll(":.*", "");
                } else if (isSaid(section, bare)) {
                    all.computeIfAbsent(section, s -> new ArrayList<>())
                            .addAll(List.of(bare.split("(?<=[.]) (?=[A-Z(])")));
                }
            }
        } catch (IOException e) {
            throw new UncheckedIOException(e);
        }
        return all;
    }

    /**
     * Headings in capitals, signatures, rules between groups and "a task" say nothing that could be
     * broken; the printed face is compared line by line in RulesTest.
     */
    private static boolean isSaid(String section, String line) {
        boolean isHere = !section.isEmpty() && !section.equals(FACE);
        boolean isMark = line.isEmpty() || line.matches("[A-Z]+") || line.startsWith("`") || line.startsWith("----");
        return isHere && !isMark && !line.matches("- `[a-z]+`: a (task|resource)");
    }

    private static String plain(String text) {
        return text.strip().replaceAll("\\s+", " ");
    }

    /** What follows is about these sentences of the Description. */
    static void description(String... sentences) {
        section(DESCRIPTION, sentences);
    }

    /** What follows is about these sentences of a promise. */
    static void promise(int number, String... sentences) {
        section("Promise " + number, sentences);
    }

    /** What follows is about these sentences of a section, named as its heading is. */
    static void section(String section, String... sentences) {
        String all = String.join(" ", SENTENCES.getOrDefault(section, List.of()));
        for (String sentence : sentences) {
            Check.about(section);
            Check.due("the document says: " + sentence, all.contains(plain(sentence)), true);
            QUOTES.computeIfAbsent(section, s -> new ArrayList<>()).add(plain(sentence));
        }
        Check.about(section + ", " + sentences[0]);
    }

    static void everySentenceIsQuoted() {
        Check.about("every sentence has a test");
        Check.due("sections", SENTENCES.size(), 39);
        SENTENCES.forEach((section, sentences) -> {
            List<String> quotes = QUOTES.getOrDefault(section, List.of());
            for (String sentence : sentences) {
                boolean isQuoted = quotes.stream().anyMatch(q -> q.contains(sentence) || sentence.contains(q));
                Check.due(section + ": " + sentence, isQuoted, true);
            }
        });
    }
}
