import java.io.IOException;
import java.lang.reflect.Method;
import java.lang.reflect.Modifier;
import java.nio.charset.StandardCharsets;
import java.nio.file.Files;
import java.nio.file.Path;
import java.util.ArrayList;
import java.util.Comparator;
import java.util.List;
import java.util.Set;
import java.util.TreeSet;
import java.util.regex.Matcher;
import java.util.regex.Pattern;
import java.util.stream.Collectors;
import java.util.stream.Stream;

/** README.md: its lines of texts stand, its calls are the face, its commands run, its example prints what it says. */
public final class ReadmeTest extends Asking {
    private static final String PLACE = "/tmp/coins", EXAMPLE = "/tmp/Example.java";
    private static final int LINES_OF_TEXTS = 13;

    public static void main(String[] args) throws IOException, InterruptedException {
        List<String> page = Files.readAllLines(Path.of("README.md"), StandardCharsets.UTF_8);
        linesOfTexts(firstCells(page, "line"));
        calls(firstCells(page, "call"));
        tests(firstCells(page, "test"));
        constants(String.join("\n", page));
        commands(page);
        end("README.md is right");
    }

    /** What stands in the first column of the table whose first column is so named. */
    private static List<String> firstCells(List<String> page, String column) {
        List<String> cells = new ArrayList<>();
        boolean inside = false;
        for (String line : page) {
            inside = line.startsWith("| " + column + " |") || inside && line.startsWith("|");
            Matcher cell = Pattern.compile("\\| `([^`]+)` \\|.*").matcher(line);
            if (inside && cell.matches()) {
                cells.add(cell.group(1));
            }
        }
        return cells;
    }

    private static void linesOfTexts(List<String> lines) {
        sentence("README: the lines of a text");
        due("how many lines there are", lines.size(), LINES_OF_TEXTS);
        for (String line : lines) {
            tell(told("coins 1 2"), line);
        }
        Set<String> words = lines.stream().map(line -> line.replaceAll(" .*", "")).collect(Collectors.toCollection(TreeSet::new));
        due("how many words there are", words.size(), 10);
    }

    private static void calls(List<String> calls) {
        sentence("README: the calls");
        Set<String> listed = new TreeSet<>();
        for (String call : calls) {
            String inside = call.substring(call.indexOf('(') + 1, call.indexOf(')'));
            listed.add(call.substring(0, call.indexOf('(')) + " of " + (inside.isEmpty() ? 0 : inside.split(",").length));
        }
        Set<String> face = new TreeSet<>();
        for (Method method : ThrownCoins.class.getDeclaredMethods()) {
            if (Modifier.isPublic(method.getModifiers())) {
                face.add(method.getName() + " of " + method.getParameterCount());
            }
        }
        alike("the calls", listed, face);
    }

    private static void tests(List<String> tests) throws IOException {
        sentence("README: the tests");
        try (Stream<Path> files = Files.list(Path.of("src/test/java"))) {
            Set<String> there = files.map(file -> file.getFileName().toString().replace(".java", ""))
                    .collect(Collectors.toCollection(TreeSet::new));
            alike("the tests", new TreeSet<>(tests), there);
        }
    }

    private static void constants(String page) {
        sentence("README: what is refused");
        String[] names = {"NONE", "UNKNOWN", "OUTSIDE", "NOT", "FULL"};
        int[] numbers = {ThrownCoins.NONE, ThrownCoins.UNKNOWN, ThrownCoins.OUTSIDE, ThrownCoins.NOT, ThrownCoins.FULL};
        for (int i = 0; i < names.length; i++) {
            due(names[i], page.contains(names[i] + " (" + numbers[i] + ")") ? 1 : 0, 1);
        }
    }

    /** In their order, with a folder of this test's own for the one that the page names. */
    private static void commands(List<String> page) throws IOException, InterruptedException {
        Path folder = Files.createTempDirectory("readme");
        try {
            List<String> program = program(page);
            Files.write(folder.resolve("Example.java"), program);
            int commands = 0;
            for (String line : page) {
                if (!line.matches(" {4}(javac|java|\\.ci/run)\\b.*") || program.contains(line)) {
                    continue;
                }
                commands++;
                sentence("README: " + line.trim());
                if (line.trim().equals(".ci/run")) {
                    due("it is there and may be run", Files.isExecutable(Path.of(".ci/run")) ? 1 : 0, 1);
                } else {
                    run(line.trim(), folder, line.contains(EXAMPLE) ? comments(program) : null);
                }
            }
            sentence("README");
            due("how many commands there are", commands, 7);
        } finally {
            remove(folder);
        }
    }

    private static List<String> program(List<String> page) {
        int from = page.indexOf("```java") + 1;
        int to = from + page.subList(from, page.size()).indexOf("```");
        return page.subList(from, to);
    }

    /** What the example prints, by the comments beside its calls: up to a colon, if there is one. */
    private static List<String> comments(List<String> program) {
        List<String> said = new ArrayList<>();
        for (String line : program) {
            int at = line.indexOf("// ");
            if (at >= 0) {
                said.add(line.substring(at + 3).replaceAll(":.*", ""));
            } else {
                due("a line without a comment: " + line, line.contains("println(x.") && !line.contains("x.fault") ? 1 : 0, 0);
            }
        }
        return said;
    }

    private static void run(String command, Path folder, List<String> prints) throws IOException, InterruptedException {
        Path out = folder.resolve("out");
        String[] words = command.split(" +");
        for (int i = 0; i < words.length; i++) {
            words[i] = words[i].equals(PLACE) ? folder.resolve("classes").toString()
                    : words[i].equals(EXAMPLE) ? folder.resolve("Example.java").toString() : words[i];
        }
        int code = new ProcessBuilder(words).redirectErrorStream(true).redirectOutput(out.toFile()).start().waitFor();
        List<String> printed = Files.readAllLines(out);
        due("exit code, behind " + printed, code, 0);
        if (prints != null) {
            due("what is printed is as said: " + printed + ", " + prints, printed.equals(prints) ? 1 : 0, 1);
        }
    }

    private static void alike(String what, Set<String> listed, Set<String> there) {
        due(what + " are listed as they are: " + listed + ", " + there, listed.equals(there) ? 1 : 0, 1);
    }

    private static void remove(Path folder) throws IOException {
        try (Stream<Path> all = Files.walk(folder)) {
            for (Path one : all.sorted(Comparator.reverseOrder()).collect(Collectors.toList())) {
                Files.delete(one);
            }
        }
    }
}
