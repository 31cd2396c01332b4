import java.io.File;
import java.io.IOException;
import java.lang.reflect.Method;
import java.lang.reflect.Modifier;
import java.nio.charset.StandardCharsets;
import java.nio.file.Files;
import java.nio.file.Path;
import java.util.Arrays;
import java.util.Comparator;
import java.util.List;
import java.util.regex.Pattern;
import java.util.stream.Collectors;
import java.util.stream.Stream;

/** That README.md, the third argument, tells the truth: its example does what it shows, and its calls are the face's. */
public final class ReadmeTest {
    private static final Check CHECK = new Check();

    public static void main(String[] args) throws IOException, InterruptedException {
        String page = Files.readString(Path.of(args[2]));
        example(page);
        calls(page);
        tests(page);
        CHECK.end();
    }

    private static void example(String page) throws IOException, InterruptedException {
        String program = block(page, "java");
        String shown = block(page.substring(page.indexOf(program) + program.length()), "text");
        CHECK.due("what the example prints", printed(program), shown);
    }

    /** The first block of a kind. */
    private static String block(String page, String kind) {
        String opening = "```" + kind + "\n";
        int start = page.indexOf(opening);
        int end = page.indexOf("```", start + opening.length());
        CHECK.due("a block of " + kind, start >= 0 && end > start, true);
        return page.substring(start + opening.length(), end);
    }

    private static String printed(String program) throws IOException, InterruptedException {
        Path room = Files.createTempDirectory("readme");
        try {
            Path file = Files.writeString(room.resolve("Example.java"), program);
            String own = System.getProperty("java.class.path");
            String told = run("javac", "-cp", own, "-d", room.toString(), file.toString());
            return told.isEmpty() ? run("java", "-cp", own + File.pathSeparator + room, "Example") : told;
        } finally {
            remove(room);
        }
    }

    /** What a command prints, and behind it its exit code if that is not 0; what it warns of is not part of it. */
    private static String run(String... command) throws IOException, InterruptedException {
        Process process = new ProcessBuilder(command).redirectError(ProcessBuilder.Redirect.INHERIT).start();
        String told = new String(process.getInputStream().readAllBytes(), StandardCharsets.US_ASCII);
        int code = process.waitFor();
        return told.replace(System.lineSeparator(), "\n") + (code == 0 ? "" : "exit code " + code + "\n");
    }

    private static void remove(Path room) throws IOException {
        try (Stream<Path> all = Files.walk(room)) {
            for (Path path : all.sorted(Comparator.reverseOrder()).toList()) {
                Files.delete(path);
            }
        }
    }

    /** A line of the table for each method, with as many parameters and with its exceptions in their order. */
    private static void calls(String page) {
        List<String> told = page.lines().filter(line -> line.startsWith("| `")).toList();
        int methods = 0;
        for (Method m : AskedTable.class.getDeclaredMethods()) {
            if (Modifier.isPublic(m.getModifiers())) {
                methods++;
                List<String> own = told.stream().filter(line -> line.startsWith("| `" + m.getName() + "(")).toList();
                CHECK.due("lines of " + m.getName(), own.size(), 1);
                own.forEach(line -> call(m, line));
            }
        }
        CHECK.due("lines of calls", told.size(), methods);
    }

    private static void call(Method m, String line) {
        String inside = line.substring(line.indexOf('(') + 1, line.indexOf(')'));
        CHECK.due("parameters of " + m.getName(), inside.isEmpty() ? 0 : inside.split(", ").length, m.getParameterCount());
        String named = Pattern.compile("`(\\w+Exception)`").matcher(line).results()
                .map(found -> found.group(1)).collect(Collectors.joining(", "));
        String declared = Arrays.stream(m.getExceptionTypes()).map(Class::getSimpleName).collect(Collectors.joining(", "));
        CHECK.due("exceptions of " + m.getName(), named, declared);
    }

    private static void tests(String page) {
        int start = page.indexOf("## How to run its tests");
        CHECK.due("it tells how tests are run", start >= 0 && page.indexOf(".ci/run", start) > start, true);
    }
}
