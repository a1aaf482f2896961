import java.io.IOException;
import java.nio.file.Files;
import java.nio.file.Path;
import java.util.ArrayList;
import java.util.LinkedHashMap;
import java.util.List;
import java.util.Map;
import java.util.regex.Matcher;
import java.util.regex.Pattern;

/**
 * Each sentence of the document's promises and terms has a test at its boundaries: the tests named *EdgesTest tell,
 * in a comment ahead of each test, which sentence it holds, and here these comments are laid beside the document.
 */
public final class SentencesTest {
    private static final Path DOCUMENT = Path.of("../shared/DOC.md");
    private static final String[] TESTS = {"CubeEdgesTest", "WayEdgesTest", "TellEdgesTest", "TermEdgesTest"};
    private static final int PROMISES = 26;
    private static final Pattern QUOTE = Pattern.compile("(What it is|Terms|Promise \\d+): \"(.*)\"");
    private static final Pattern HEAD = Pattern.compile(" {4}private static void (\\w+)\\(\\) \\{");

    private final Map<String, List<String>> chapters = new LinkedHashMap<>();
    private final Map<String, List<String>> quotes = new LinkedHashMap<>();

    /** Chapters by the name ahead of their colon, each as its lines, without the signs that set the type. */
    private void readDocument() throws IOException {
        List<String> lines = null;
        for (String line : Files.readAllLines(DOCUMENT)) {
            if (line.startsWith("## ")) {
                lines = new ArrayList<>();
                chapters.put(line.substring(3).split(":")[0], lines);
            } else if (lines != null && !line.isBlank() && !line.startsWith("#")) {
                // A promise's first line is its call, and what that does.
                String told = line.replaceFirst("^`.*?`: ", "").replaceFirst("^- ", "").replace("`", "");
                lines.add(told.replaceAll("\\s+", " ").strip());
            }
        }
    }

    private void readTest(String test) throws IOException {
        List<String> lines = Files.readAllLines(Path.of("src/test/java", test + ".java"));
        StringBuilder comment = new StringBuilder();
        for (String line : lines) {
            if (line.startsWith("    // ")) {
                comment.append(comment.length() == 0 ? "" : " ").append(line.substring(7));
                continue;
            }
            Matcher quote = QUOTE.matcher(comment);
            if (quote.matches()) {
                Matcher head = HEAD.matcher(line);
                boolean runs = head.matches() && lines.contains("        " + head.group(1) + "();");
                Due.is(test + " runs a test of: " + comment, 1, runs ? 1 : 0);
                quotes.computeIfAbsent(quote.group(1), name -> new ArrayList<>()).add(quote.group(2));
            }
            comment.setLength(0);
        }
    }

    private String textOf(String chapter) {
        return String.join(" ", chapters.getOrDefault(chapter, List.of()));
    }

    private void quotesAreTrue() {
        for (Map.Entry<String, List<String>> told : quotes.entrySet()) {
            for (String quote : told.getValue()) {
                Due.is(told.getKey() + " says: " + quote, 1, textOf(told.getKey()).contains(quote) ? 1 : 0);
            }
        }
    }

    private void promisesAreQuoted() {
        for (int number = 1; number <= PROMISES; number++) {
            String promise = "Promise " + number;
            List<String> lines = chapters.getOrDefault(promise, List.of());
            Due.is(promise + " has sentences", 1, lines.isEmpty() ? 0 : 1);
            for (String line : lines) {
                boolean held = quotes.getOrDefault(promise, List.of()).contains(line);
                Due.is(promise + " is held: " + line, 1, held ? 1 : 0);
            }
        }
        Due.is("promises", PROMISES, chapters.keySet().stream().filter(name -> name.startsWith("Promise ")).count());
    }

    /** Of the terms, every word is in some quote, but for those that tell where the interface has its headings. */
    private void termsAreQuoted() {
        String text = textOf("Terms");
        Due.is("there are terms", 1, text.isEmpty() ? 0 : 1);
        StringBuilder left = new StringBuilder(text);
        for (String quote : quotes.getOrDefault("Terms", List.of())) {
            for (int from = text.indexOf(quote); from >= 0; from = text.indexOf(quote, from + 1)) {
                left.replace(from, from + quote.length(), "|".repeat(quote.length()));
            }
        }
        String words = left.toString().replaceAll("Ahead of the calls [a-zA-Z, ]* the interface says:", "")
                .replaceAll("---- (cubes|ways)\\.", "");
        for (String word : words.split("[^\\w=+-]+")) {
            Due.same("a word of the terms that no test holds", "", word);
        }
    }

    public static void main(String[] args) throws IOException {
        SentencesTest test = new SentencesTest();
        test.readDocument();
        for (String name : TESTS) {
            test.readTest(name);
        }
        test.quotesAreTrue();
        test.promisesAreQuoted();
        test.termsAreQuoted();
        Due.end();
    }
}
