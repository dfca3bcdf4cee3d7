import java.io.IOException;
import java.nio.file.Files;
import java.nio.file.Path;
import java.util.ArrayList;
import java.util.List;
import java.util.Set;
import java.util.TreeSet;
import java.util.regex.Matcher;
import java.util.regex.Pattern;
import java.util.stream.Collectors;
import java.util.stream.Stream;

/**
 * What README.md shows: writes it as a program, build/readme/Shown.java, which .ci/run compiles and runs. There the
 * lines stand once as README.md has them, and once with each answer looked at.
 */
final class ReadmeTest {
    private static final Checks CHECKS = new Checks("ReadmeTest");
    /** A call, perhaps with a name for its answer, and what README.md says that it answers. */
    private static final Pattern ANSWERED = Pattern.compile(
        "(?:int (\\w+) = )?(x\\.\\w+\\(.*\\)); +// (-?\\d+|NONE|BAD|STATE|FULL|NO): \\S.*");

    private static List<String> javaLines(List<String> page) {
        List<String> lines = new ArrayList<>();
        boolean inside = false;
        for (String line : page) {
            if (line.startsWith("```")) {
                inside = line.equals("```java");
            } else if (inside) {
                lines.add(line);
            }
        }
        return lines;
    }

    /** The line with its answer looked at, or as it is, if it tells none. */
    private static String lookedAt(String line) {
        Matcher answered = ANSWERED.matcher(line);
        if (!answered.matches()) {
            boolean isPart = line.startsWith(" ") || line.startsWith("for ") || line.equals("}");
            CHECKS.holds("tells its answer: " + line, isPart || line.equals("HairAtATime x = new HairAtATime();"));
            return line;
        }
        String name = answered.group(1);
        String call = answered.group(2);
        String answer = answered.group(3).matches("-?\\d+") ? answered.group(3) : "HairAtATime." + answered.group(3);
        String shown = "CHECKS.due(\"" + call + "\", " + answer + ", " + (name == null ? call : name) + ");";
        return name == null ? shown : "int " + name + " = " + call + "; " + shown;
    }

    private static String program(List<String> lines) {
        String shown = lines.stream().collect(Collectors.joining("\n"));
        String looked = lines.stream().map(ReadmeTest::lookedAt).collect(Collectors.joining("\n"));
        return "/** Written by ReadmeTest. */\nfinal class Shown {\n"
            + "private static final Checks CHECKS = new Checks(\"Shown\");\n"
            + "static void asItIsShown() {\n" + shown + "\n}\n"
            + "public static void main(String[] args) {\nasItIsShown();\n" + looked + "\nCHECKS.end();\n}\n}\n";
    }

    private static Set<String> face() throws IOException {
        Set<String> names = new TreeSet<>();
        Matcher call = Pattern.compile("    public (?:int|long) (\\w+)\\(").matcher(
            Files.readString(Path.of("..", "shared", "DOC.md")));
        while (call.find()) {
            names.add(call.group(1));
        }
        return names;
    }

    private static List<String> tests() throws IOException {
        try (Stream<Path> files = Files.list(Path.of("src", "test", "java"))) {
            return files.map(file -> file.getFileName().toString()).filter(name -> name.endsWith("Test.java"))
                .map(name -> name.replace(".java", "")).sorted().collect(Collectors.toList());
        }
    }

    public static void main(String[] args) throws IOException {
        List<String> page = Files.readAllLines(Path.of("README.md"));
        List<String> lines = javaLines(page);
        CHECKS.due("how many calls the face has", 35, face().size());
        for (String name : face()) {
            CHECKS.holds("shows " + name, lines.stream().anyMatch(line -> line.contains("x." + name + "(")));
        }
        for (String test : tests()) {
            CHECKS.holds("names " + test, page.stream().anyMatch(line -> line.contains("`" + test + "`")));
        }
        Path program = Path.of("build", "readme", "Shown.java");
        Files.createDirectories(program.getParent());
        Files.writeString(program, program(lines));
        CHECKS.end();
    }
}
