import java.io.IOException;
import java.nio.file.Files;
import java.nio.file.Path;
import java.util.ArrayList;
import java.util.List;
import java.util.regex.Matcher;
import java.util.regex.Pattern;

/** Rules of the language that can be seen in the text of the program. */
public final class LanguageTest {
    private static final int MOST_LINES = 60;
    private static final int MOST_PARAMETERS = 7;
    private static final int MOST_CLASSES = 12;

    private static final String[] FORBIDDEN = {"->", "::", "\\bfinally\\b", "\\bsynchronized\\b", "\\bassert\\b",
        "\\bimport\\b", "\\bpackage\\b", "\\btry\\b", "\\bcatch\\b", "\\bObject\\b", "\\bSystem\\b", "\\bArrays\\b",
        "\\bprotected\\b", "\\bFloat\\b", "\\bDouble\\b", "Exact\\b", "\"\\s*\\+", "\\+\\s*\"", "\\bstatic\\s*\\{",
        "\\bwhile\\s*\\(true\\)", "\\bequals\\b", "\\bhashCode\\b", "\\btoString\\b", "\\bvar\\b"};

    /** What stands behind the names of the library's classes that the program may use. */
    private static final Pattern LIBRARY = Pattern.compile("\\b(Math|Long|Integer)\\.(\\w+)");

    private static final Pattern NEW = Pattern.compile("\\bnew\\s+(\\w+)");

    private static String withoutComments(String text) {
        return text.replaceAll("(?s)/\\*.*?\\*/", "").replaceAll("//[^\n]*", "");
    }

    private static void words(String text) {
        for (String word : FORBIDDEN) {
            Due.is("uses of " + word, 0, count(Pattern.compile(word), text));
        }
        Matcher library = LIBRARY.matcher(text);
        while (library.find()) {
            Due.is(library.group(), 1, library.group(2).matches("max|min|abs|bitCount") ? 1 : 0);
        }
        Matcher made = NEW.matcher(text);
        while (made.find()) {
            Due.is(made.group(), 1, made.group(1).matches("int|long|Cube|Way|Flat|Search|Sums"
                    + "|IllegalArgumentException|IllegalStateException|IndexOutOfBoundsException") ? 1 : 0);
        }
        Due.is("at most 12 classes", 1, count(Pattern.compile("\\bclass\\b"), text) <= MOST_CLASSES ? 1 : 0);
    }

    private static int count(Pattern pattern, String text) {
        Matcher matcher = pattern.matcher(text);
        int count = 0;
        while (matcher.find()) {
            count++;
        }
        return count;
    }

    /** Methods start at a line with a parameter list that ends in a brace, and end at a brace as far in. */
    private static void methods(List<String> lines) {
        for (int at = 0; at < lines.size(); at++) {
            String line = lines.get(at);
            String head = line.strip();
            boolean starts = head.matches("(public|private|static|final|int|long|void|boolean|Cube|Way|String)\\b.*\\(.*");
            if (!starts || head.contains("=") || head.endsWith(";")) {
                continue;
            }
            int in = line.length() - line.stripLeading().length();
            int end = at;
            while (end < lines.size() && !lines.get(end).equals(" ".repeat(in) + "}")) {
                end++;
            }
            Due.is("lines of " + head, 1, end - at < MOST_LINES ? 1 : 0);
            String parameters = head.substring(head.indexOf('(') + 1);
            Due.is("parameters of " + head, 1, parameters.split(",").length <= MOST_PARAMETERS ? 1 : 0);
        }
    }

    public static void main(String[] args) throws IOException {
        String text = withoutComments(Files.readString(Path.of("src/main/java/Bilinearium.java")));
        words(text);
        methods(new ArrayList<>(List.of(text.split("\n"))));
        Due.end();
    }
}
