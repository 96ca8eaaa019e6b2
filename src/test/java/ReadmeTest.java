import java.io.IOException;
import java.lang.reflect.Field;
import java.lang.reflect.Method;
import java.lang.reflect.Modifier;
import java.net.URL;
import java.net.URLClassLoader;
import java.nio.charset.StandardCharsets;
import java.nio.file.Files;
import java.nio.file.Path;
import java.util.ArrayList;
import java.util.Comparator;
import java.util.List;
import java.util.regex.Matcher;
import java.util.regex.Pattern;
import java.util.stream.Stream;
import javax.tools.ToolProvider;

/** What README.md shows is so: its programs compile, and each call answers what stands behind it. */
public final class ReadmeTest {
    private static final String README = "README.md";
    private static final String PROGRAMS = "ReadmePrograms";
    /** A call and what it answers: a number, a character or a constant of the class, then words. */
    private static final Pattern SHOWN = Pattern.compile(
        "(x\\.\\w+\\([^;]*\\)); *// (-?\\d+|'.'|[A-Z_]+)(: \\S.*)?");

    private ReadmeTest() {
    }

    public static void main(String[] args) throws Exception {
        String readme = Files.readString(Path.of(README), StandardCharsets.UTF_8);
        Check.part(README);
        facePresent(readme);
        valuesOfConstants(readme);
        testsPresent(readme);
        runPrograms(programs(readme));
        Check.finish();
    }

    private static void facePresent(String readme) {
        for (Method method : RecursionSchemes.class.getDeclaredMethods()) {
            if (Modifier.isPublic(method.getModifiers())) {
                Check.holds("no program calls " + method.getName(), readme.contains("x." + method.getName() + "("));
            }
        }
    }

    private static void valuesOfConstants(String readme) throws IllegalAccessException {
        for (Field field : RecursionSchemes.class.getDeclaredFields()) {
            if (Modifier.isPublic(field.getModifiers())) {
                String row = "| `" + field.getName() + "` | " + field.getInt(null) + " |";
                Check.holds("there is no row " + row, readme.contains(row));
            }
        }
    }

    private static void testsPresent(String readme) throws IOException {
        try (Stream<Path> files = Files.list(Path.of("src/test/java"))) {
            files.map(file -> file.getFileName().toString().replace(".java", ""))
                .filter(name -> name.endsWith("Test"))
                .forEach(name -> Check.holds(name + " is not told", readme.contains("`" + name + "`")));
        }
    }

    /** The programs of the page, which put a row for each call: the call, its answer and the shown one. */
    private static List<String> programs(String readme) {
        List<String> found = new ArrayList<>();
        Matcher block = Pattern.compile("(?s)\n```java\n(.*?)\n```\n").matcher(readme);
        while (block.find()) {
            StringBuilder program = new StringBuilder();
            for (String line : block.group(1).split("\n")) {
                program.append(checked(line)).append('\n');
            }
            found.add(program.toString());
        }
        Check.holds("there are programs", found.size() >= 4);
        return found;
    }

    private static String checked(String line) {
        Matcher shown = SHOWN.matcher(line);
        if (!shown.matches()) {
            // Calls inside a loop stand further right, and show no answer.
            Check.holds("no answer is shown: " + line, !line.startsWith("x."));
            return line;
        }
        String answer = shown.group(2);
        if (Character.isLetter(answer.charAt(0))) {
            answer = "RecursionSchemes." + answer;
        }
        return "rows.add(new Object[] {\"" + shown.group(1) + "\", " + shown.group(1) + ", (int) " + answer + "});";
    }

    private static void runPrograms(List<String> programs) throws Exception {
        StringBuilder source = new StringBuilder("public final class " + PROGRAMS + " {\n");
        for (int i = 0; i < programs.size(); i++) {
            source.append("public static void program").append(i).append("(java.util.List<Object[]> rows) {\n")
                .append(programs.get(i)).append("}\n");
        }
        source.append("}\n");
        Path directory = Files.createTempDirectory("readme");
        try {
            Path file = directory.resolve(PROGRAMS + ".java");
            Files.writeString(file, source, StandardCharsets.UTF_8);
            int exit = ToolProvider.getSystemJavaCompiler().run(null, null, null, "-encoding", "UTF-8",
                "-cp", System.getProperty("java.class.path"), "-d", directory.toString(), file.toString());
            Check.due("javac", exit, 0);
            if (exit == 0) {
                runCompiled(directory, programs.size());
            }
        } finally {
            remove(directory);
        }
    }

    /** A program can't reach the class Check, which is not public, so it hands back what it was answered. */
    private static void runCompiled(Path directory, int count) throws Exception {
        try (URLClassLoader loader = new URLClassLoader(new URL[] {directory.toUri().toURL()})) {
            Class<?> type = loader.loadClass(PROGRAMS);
            for (int i = 0; i < count; i++) {
                Check.part(README + ", program " + (i + 1));
                List<Object[]> rows = new ArrayList<>();
                type.getMethod("program" + i, List.class).invoke(null, rows);
                Check.holds("it shows no answer", !rows.isEmpty());
                for (Object[] row : rows) {
                    Check.due((String) row[0], (Integer) row[1], (Integer) row[2]);
                }
            }
        }
    }

    private static void remove(Path directory) throws IOException {
        try (Stream<Path> files = Files.walk(directory)) {
            for (Path file : files.sorted(Comparator.reverseOrder()).toList()) {
                Files.delete(file);
            }
        }
    }
}
