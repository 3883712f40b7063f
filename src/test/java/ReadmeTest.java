import java.io.IOException;
import java.lang.reflect.Method;
import java.lang.reflect.Modifier;
import java.nio.charset.StandardCharsets;
import java.nio.file.Files;
import java.nio.file.Path;
import java.util.Comparator;
import java.util.List;
import java.util.regex.Matcher;
import java.util.regex.Pattern;
import java.util.stream.Collectors;
import java.util.stream.Stream;

/** What README.md tells is so when it is tried: its examples, its commands, and what it names. */
public final class ReadmeTest {
    // A line of an example: what it declares, the call, and behind the signs
    // of a comment what is due, with words that explain it.
    private static final Pattern EXAMPLE = Pattern.compile("(?:(int \\w+) = )?(hall\\.\\w+\\(.*\\)); *// ([^:]+)(?:: .*)?");
    private static final Pattern NEW_HALL = Pattern.compile("MarkingHall hall = new MarkingHall\\(\\);");

    private static final Due due = new Due();

    public static void main(String[] args) throws IOException, InterruptedException {
        if (args.length == 0) {
            due.is("the source is told as an argument", true, false);
            due.end();
            return;
        }
        Path source = Path.of(args[0]).toAbsolutePath();
        Path root = source.getParent().getParent().getParent().getParent();
        String readme = Files.readString(root.resolve("README.md"), StandardCharsets.UTF_8);
        namesAllCalls(readme);
        namesAllTests(readme, root);
        Path room = Files.createTempDirectory("readme");
        try {
            commandsAndExamples(readme, root, room);
        } finally {
            deleteAll(room);
        }
        due.end();
    }

    private static void namesAllCalls(String readme) {
        String examples = String.join("\n", blocks(readme, "java"));
        for (Method method : MarkingHall.class.getDeclaredMethods()) {
            if (Modifier.isPublic(method.getModifiers())) {
                String call = "hall." + method.getName() + "(";
                due.is("README.md has an example of " + call, true, examples.contains(call));
            }
        }
    }

    private static void namesAllTests(String readme, Path root) throws IOException {
        List<String> there;
        try (Stream<Path> files = Files.list(root.resolve("src/test/java"))) {
            there = files.map(file -> file.getFileName().toString())
                .filter(name -> name.endsWith("Test.java"))
                .map(name -> name.replace(".java", ""))
                .sorted().collect(Collectors.toList());
        }
        Matcher named = Pattern.compile("`(\\w+Test)`").matcher(readme);
        List<String> told = named.results().map(found -> found.group(1))
            .distinct().sorted().collect(Collectors.toList());
        due.is("the tests that README.md names", there, told);
    }

    /** Runs the commands of the page block by block, in a copy of the project with the examples in Yours.java. */
    private static void commandsAndExamples(String readme, Path root, Path room) throws IOException, InterruptedException {
        Path project = room.resolve("project");
        copy(root.resolve("src"), project.resolve("src"));
        copy(root.resolve("../shared/tests"), room.resolve("shared/tests"));
        List<String> examples = blocks(readme, "java").stream().flatMap(String::lines)
            .filter(line -> !line.isBlank()).collect(Collectors.toList());
        Files.writeString(project.resolve("Yours.java"), program(examples), StandardCharsets.UTF_8);
        List<String> commands = blocks(readme, "sh");
        due.is("README.md tells commands", true, commands.size() > 1);
        for (String block : commands) {
            Process process = new ProcessBuilder("bash", "-e", "-c", block)
                .directory(project.toFile()).redirectErrorStream(true).start();
            String said = new String(process.getInputStream().readAllBytes(), StandardCharsets.UTF_8);
            due.is(block + "ended, saying " + said, 0, process.waitFor());
        }
    }

    /** All blocks of a language. */
    private static List<String> blocks(String readme, String language) {
        return Pattern.compile("(?ms)^```" + language + "\n(.*?)^```$").matcher(readme).results()
            .map(found -> found.group(1)).collect(Collectors.toList());
    }

    /** A program that makes the calls of the examples, and ends with 1 if one does not do what stands behind it. */
    private static String program(List<String> examples) {
        StringBuilder text = new StringBuilder("public class Yours {\n"
            + "    static boolean wrong;\n"
            + "    static void due(String call, Object got, String want) {\n"
            + "        if (got.toString().equals(want)) return;\n"
            + "        wrong = true;\n"
            + "        System.out.println(call + \" answered \" + got + \", README.md says \" + want);\n"
            + "    }\n"
            + "    public static void main(String[] args) {\n");
        for (String line : examples) {
            Matcher example = EXAMPLE.matcher(line);
            if (example.matches()) {
                text.append(checked(example.group(1), example.group(2), example.group(3)));
            } else {
                due.is("a line of an example tells what is due: " + line, true, NEW_HALL.matcher(line).matches());
                text.append(line).append('\n');
            }
        }
        return text.append("        if (wrong) System.exit(1);\n    }\n}\n").toString();
    }

    private static String checked(String declared, String call, String want) {
        String shown = '"' + call + '"';
        if (declared != null) {
            return declared + " = " + call + ";\ndue(" + shown + ", " + declared.substring(4) + ", \"" + want + "\");\n";
        }
        if (want.startsWith("throws ")) {
            return "try { due(" + shown + ", " + call + ", \"" + want + "\"); } catch (RuntimeException e) {"
                + " due(" + shown + ", \"throws \" + e.getClass().getSimpleName(), \"" + want + "\"); }\n";
        }
        return "due(" + shown + ", " + call + ", \"" + want + "\");\n";
    }

    private static void copy(Path from, Path to) throws IOException {
        try (Stream<Path> files = Files.walk(from)) {
            for (Path file : files.collect(Collectors.toList())) {
                Path copied = to.resolve(from.relativize(file).toString());
                if (Files.isDirectory(file)) {
                    Files.createDirectories(copied);
                } else {
                    Files.write(copied, Files.readAllBytes(file));
                }
            }
        }
    }

    private static void deleteAll(Path room) throws IOException {
        try (Stream<Path> files = Files.walk(room)) {
            for (Path file : files.sorted(Comparator.reverseOrder()).collect(Collectors.toList())) {
                Files.delete(file);
            }
        }
    }
}
