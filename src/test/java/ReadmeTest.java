import java.io.IOException;
import java.nio.file.Files;
import java.nio.file.Path;
import java.util.ArrayList;
import java.util.Arrays;
import java.util.Comparator;
import java.util.List;
import java.util.Set;
import java.util.TreeSet;
import java.util.regex.Matcher;
import java.util.regex.Pattern;
import java.util.stream.Collectors;
import java.util.stream.Stream;

/** README.md: its program answers as it says, its commands work, and the tests that it lists are the tests. */
public final class ReadmeTest extends Checks {
    private static final Path TESTS = Path.of("src/test/java");
    private static final Pattern SHOWN = Pattern.compile("^( *)(x\\.(\\w+)\\(.*\\)); +// (-?\\d+)\\b.*$");
    /** What an answer of the program is looked at with, behind its first line. */
    private static final String DUE = "static void due(String call, int got, int want) {"
        + " System.out.println(call + \" answers \" + got);"
        + " if (got != want) { System.out.println(\"README.md says \" + want); System.exit(1); } }";

    private static Path folder;

    public static void main(String[] args) throws IOException, InterruptedException {
        List<String> page = Files.readAllLines(Path.of("README.md"));
        folder = Files.createTempDirectory("readme");
        try {
            List<String> use = section(page, "## How to use it");
            List<String> run = section(page, "## How to run its tests");
            program(use);
            commands(use, 2);
            commands(run, 2);
            howTestsAreRun(run);
            listedTests(run);
        } finally {
            remove(folder);
        }
        finish();
    }

    private static List<String> section(List<String> page, String head) {
        int start = page.indexOf(head);
        check(start >= 0, "no section " + head);
        int end = start + 1;
        while (end < page.size() && !page.get(end).startsWith("## ")) {
            end++;
        }
        return page.subList(start + 1, end);
    }

    /** The lines that are shown as code. */
    private static List<String> code(List<String> section) {
        return section.stream().filter(line -> line.startsWith("    ")).map(line -> line.substring(4))
            .collect(Collectors.toList());
    }

    /** Writes the program of the page, with each answer that it names looked at. */
    private static void program(List<String> use) throws IOException {
        List<String> lines = new ArrayList<>();
        Set<String> shown = new TreeSet<>();
        for (String line : code(use)) {
            Matcher call = SHOWN.matcher(line);
            if (call.matches()) {
                shown.add(call.group(3));
                String asked = call.group(2);
                lines.add(call.group(1) + "due(\"" + asked + "\", " + asked + ", " + call.group(4) + ");");
            } else if (!line.startsWith("java")) {
                boolean tells = line.contains("x.") && line.contains("//");
                check(!tells, "an answer that is not looked at: " + line);
                lines.add(line);
            }
            if (line.startsWith("public final class Example")) {
                lines.add(DUE);
            }
        }
        check(shown.equals(METHODS), "the calls that are shown are " + shown);
        Files.write(folder.resolve("Example.java"), lines);
    }

    /** Runs what is shown as to be typed, with the folder "out" and the program in one that is removed again. */
    private static void commands(List<String> section, int due) throws IOException, InterruptedException {
        int found = 0;
        for (String line : code(section)) {
            if (line.matches("javac? .*")) {
                found++;
                String[] words = line.split(" +");
                words[0] = Path.of(System.getProperty("java.home"), "bin", words[0]).toString();
                for (int i = 1; i < words.length; i++) {
                    words[i] = words[i].equals("out") ? folder.resolve("out").toString()
                        : words[i].equals("Example.java") ? folder.resolve("Example.java").toString()
                        : words[i];
                }
                check(ends(words) == 0, "a command that fails: " + line);
            }
        }
        check(found == due, found + " commands");
    }

    private static int ends(String[] words) throws IOException, InterruptedException {
        Path told = folder.resolve("told");
        int code = new ProcessBuilder(words).redirectErrorStream(true).redirectOutput(told.toFile()).start().waitFor();
        if (code != 0) {
            System.out.println(Files.readString(told));
        }
        return code;
    }

    private static void howTestsAreRun(List<String> run) throws IOException {
        check(code(run).contains(".ci/run"), ".ci/run is not shown");
        Path script = Path.of(".ci/run");
        check(Files.isExecutable(script), ".ci/run can not be run");
        String text = Files.readString(script);
        check(text.contains("src/test/java/*Test.java") && text.contains("../shared/tests/*.java"),
            ".ci/run does not run these tests");
    }

    private static void listedTests(List<String> run) throws IOException {
        Set<String> listed = new TreeSet<>();
        for (String line : run) {
            Matcher item = Pattern.compile("^- `(\\w+)\\b.*").matcher(line);
            if (item.matches()) {
                listed.add(item.group(1));
            }
        }
        Set<String> there;
        try (Stream<Path> files = Files.list(TESTS)) {
            there = files.map(file -> file.getFileName().toString()).filter(name -> name.endsWith("Test.java"))
                .map(name -> name.substring(0, name.length() - ".java".length()))
                .collect(Collectors.toCollection(TreeSet::new));
        }
        check(listed.equals(there), "listed are " + listed + ", there are " + there);
        String text = String.join(" ", run);
        for (String helper : Arrays.asList("Checks", "Twins", "PlainTruths")) {
            check(text.contains("`" + helper + "`") && Files.exists(TESTS.resolve(helper + ".java")), helper);
        }
    }

    private static void remove(Path path) throws IOException {
        try (Stream<Path> files = Files.walk(path)) {
            for (Path file : files.sorted(Comparator.reverseOrder()).collect(Collectors.toList())) {
                Files.delete(file);
            }
        }
    }
}
