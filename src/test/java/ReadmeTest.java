import java.io.IOException;
import java.nio.file.Files;
import java.nio.file.Path;
import java.util.ArrayList;
import java.util.Comparator;
import java.util.HashSet;
import java.util.LinkedHashSet;
import java.util.List;
import java.util.Set;
import java.util.TreeSet;
import java.util.regex.Matcher;
import java.util.regex.Pattern;
import java.util.stream.Stream;

/** What README.md shows is tried: its commands, its program and what that prints, and each call with its answer. */
public final class ReadmeTest {
    private static final Path README = Path.of("README.md");
    private static final String MAKES = "Bilinearium x = new Bilinearium();";
    private static final String RUNS_ALL = ".ci/run";
    private static final String RUNS_EXAMPLE = "java -cp out Example";
    private static final Pattern CALL = Pattern.compile("x\\.(\\w+)\\((.*)\\);\\s+// ([^:]+)(: .+)?");
    private static final Pattern ROW = Pattern.compile("\\| `(\\w+)` \\| .* \\|");

    private final List<String> lines;
    private final Set<String> shown = new HashSet<>();
    private String example = "";

    private ReadmeTest(List<String> lines) {
        this.lines = lines;
    }

    /** The lines of each block of a kind, which is the word behind the signs that open it. */
    private List<List<String>> blocks(String kind) {
        List<List<String>> blocks = new ArrayList<>();
        List<String> block = null;
        for (String line : lines) {
            if (block == null && line.startsWith("```")) {
                block = new ArrayList<>();
                if (line.equals("```" + kind)) {
                    blocks.add(block);
                }
            } else if (line.equals("```")) {
                block = null;
            } else if (block != null) {
                block.add(line);
            }
        }
        return blocks;
    }

    private void tryJava() {
        for (List<String> block : blocks("java")) {
            if (block.get(0).equals(MAKES)) {
                tryCalls(block);
            } else {
                example = String.join("\n", block);
            }
        }
        for (int kind = 0; kind < Both.kinds(); kind++) {
            Due.is("a call is shown of " + Both.nameOf(kind), 1, shown.contains(Both.nameOf(kind)) ? 1 : 0);
        }
    }

    private void tryCalls(List<String> block) {
        Bilinearium x = new Bilinearium();
        for (String line : block.subList(1, block.size())) {
            Matcher call = CALL.matcher(line);
            Due.is("a call with its answer: " + line, 1, call.matches() ? 1 : 0);
            if (call.matches()) {
                shown.add(call.group(1));
                Due.same(line, call.group(3), answerOf(x, call.group(1), call.group(2).split(", ")));
            }
        }
    }

    private static String answerOf(Bilinearium x, String name, String[] told) {
        int kind = 0;
        while (kind < Both.kinds() && !Both.nameOf(kind).equals(name)) {
            kind++;
        }
        if (kind == Both.kinds() || Both.argumentsOf(kind) != told.length) {
            return "no such call";
        }
        int[] arguments = new int[told.length];
        for (int at = 0; at < told.length; at++) {
            boolean word = told[at].equals("true") || told[at].equals("false");
            arguments[at] = word ? (told[at].equals("true") ? 1 : 0) : Integer.parseInt(told[at]);
        }
        int known = kind;
        String answer = Due.answerOf(() -> Both.call(x, known, arguments));
        return answer.endsWith("Exception") ? "throws " + answer : name.equals("flip") ? "nothing" : answer;
    }

    /** The commands are run in a room of their own, with links to the sources, so that the checkout stays as it is. */
    private void tryCommands() throws IOException, InterruptedException {
        Path room = Files.createTempDirectory("readme");
        try {
            Path home = Files.createDirectory(room.resolve("main"));
            Files.createSymbolicLink(home.resolve("src"), Path.of("src").toRealPath());
            Files.createSymbolicLink(room.resolve("shared"), Path.of("../shared").toRealPath());
            Files.writeString(home.resolve("Example.java"), example + "\n");
            Set<String> run = new LinkedHashSet<>();
            for (List<String> block : blocks("sh")) {
                for (String command : block) {
                    run.add(command);
                    tryCommand(command, home);
                }
            }
            Due.is("the program is run", 1, run.contains(RUNS_EXAMPLE) ? 1 : 0);
            Due.is("the tests are run", 1, run.contains(RUNS_ALL) ? 1 : 0);
        } finally {
            remove(room);
        }
    }

    private void tryCommand(String command, Path home) throws IOException, InterruptedException {
        // This test is one of those that the script runs, so it is looked at and not run again.
        if (command.equals(RUNS_ALL)) {
            Due.is(command + " can be run", 1, Files.isExecutable(Path.of(command)) ? 1 : 0);
            return;
        }
        Process process = new ProcessBuilder("sh", "-c", command).directory(home.toFile()).redirectErrorStream(true)
                .start();
        String printed = new String(process.getInputStream().readAllBytes());
        Due.is(command + " ends with, having printed " + printed, 0, process.waitFor());
        if (command.equals(RUNS_EXAMPLE)) {
            List<List<String>> told = blocks("text");
            Due.is("blocks of what the program prints", 1, told.size());
            Due.same("the program prints", String.join("\n", told.get(0)), printed.strip());
        }
    }

    /** A link is deleted itself, not what is behind it. */
    private static void remove(Path room) throws IOException {
        List<Path> paths;
        try (Stream<Path> found = Files.walk(room)) {
            paths = found.sorted(Comparator.reverseOrder()).toList();
        }
        for (Path path : paths) {
            Files.delete(path);
        }
    }

    /** The table has a row for each test that there is, and for no other. */
    private void tryTable() throws IOException {
        Set<String> told = new TreeSet<>();
        for (String line : lines) {
            Matcher row = ROW.matcher(line);
            if (row.matches()) {
                told.add(row.group(1));
            }
        }
        Set<String> there = new TreeSet<>();
        try (Stream<Path> found = Files.list(Path.of("src/test/java"))) {
            found.map(path -> path.getFileName().toString()).filter(name -> name.endsWith("Test.java"))
                    .forEach(name -> there.add(name.replace(".java", "")));
        }
        Due.same("the table of tests", there.toString(), told.toString());
    }

    public static void main(String[] args) throws IOException, InterruptedException {
        ReadmeTest test = new ReadmeTest(Files.readAllLines(README));
        test.tryJava();
        test.tryCommands();
        test.tryTable();
        Due.end();
    }
}
