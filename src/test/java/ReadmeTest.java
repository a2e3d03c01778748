import java.io.IOException;
import java.lang.reflect.Method;
import java.lang.reflect.Modifier;
import java.net.URL;
import java.net.URLClassLoader;
import java.nio.file.Files;
import java.nio.file.Path;
import java.util.ArrayList;
import java.util.List;
import java.util.Set;
import java.util.TreeSet;
import java.util.regex.Matcher;
import java.util.regex.Pattern;
import java.util.stream.Stream;
import javax.tools.ToolProvider;

/** README.md: its example is compiled and run as it stands there, and each answer that it tells must hold. */
public final class ReadmeTest {
    private static final Check CHECK = new Check();
    /** A call, and behind it as a comment the answer, a colon, and what it means. */
    private static final Pattern ROW = Pattern.compile("\\s*x\\.((\\w+)\\(.*\\));\\s*// (\\S+): \\S.*");
    private static final String CONSTANTS = "UNKNOWN OUTSIDE STATE FULL NONE FAULT";

    public static void main(String[] args) throws Exception {
        String readme = Files.readString(Path.of("README.md"));
        List<String> rows = exampleOf(readme);
        eachAnswerHolds(rows);
        noCallIsLeftOut(rows);
        eachTestIsNamed(readme);
        CHECK.end();
    }

    private static List<String> exampleOf(String readme) {
        Matcher block = Pattern.compile("(?s)```java\n(.*?)```").matcher(readme);
        CHECK.holds("README.md has an example", block.find());
        List<String> rows = List.of(block.group(1).split("\n"));
        CHECK.holds("and only one", !block.find());
        return rows;
    }

    private static void eachAnswerHolds(List<String> rows) throws Exception {
        StringBuilder source = new StringBuilder("public final class Example {\n");
        for (String name : CONSTANTS.split(" ")) {
            source.append("static final int ").append(name).append(" = HeadMarks.").append(name).append(";\n");
        }
        source.append("public static void run(java.util.List<String> calls, java.util.List<Integer> got,"
            + " java.util.List<Integer> told) {\n");
        int answers = 0;
        for (String row : rows) {
            Matcher m = ROW.matcher(row);
            if (m.matches()) {
                answers++;
                source.append("calls.add(\"").append(m.group(1)).append("\"); got.add(x.").append(m.group(1))
                    .append("); told.add((int) ").append(m.group(3)).append(");\n");
            } else {
                CHECK.holds("a row with a comment tells an answer: " + row, !row.contains("//"));
                source.append(row).append('\n');
            }
        }
        source.append("}\n}\n");
        compare(run(source.toString()), answers);
    }

    private static void compare(List<List<?>> lists, int answers) {
        CHECK.due("answers", lists.get(0).size(), answers);
        for (int i = 0; i < answers; i++) {
            CHECK.due("README.md: " + lists.get(0).get(i), (Integer) lists.get(1).get(i), (Integer) lists.get(2).get(i));
        }
    }

    /** Calls, answers that they got, answers that README.md tells. */
    private static List<List<?>> run(String source) throws Exception {
        Path directory = Files.createTempDirectory("readme");
        try {
            Path file = directory.resolve("Example.java");
            Files.writeString(file, source);
            int code = ToolProvider.getSystemJavaCompiler().run(null, null, null, "-cp",
                System.getProperty("java.class.path"), "-d", directory.toString(), file.toString());
            CHECK.due("compiling the example", code, 0);
            List<List<?>> lists = List.of(new ArrayList<String>(), new ArrayList<Integer>(), new ArrayList<Integer>());
            try (URLClassLoader loader = new URLClassLoader(new URL[] {directory.toUri().toURL()})) {
                loader.loadClass("Example").getMethod("run", List.class, List.class, List.class)
                    .invoke(null, lists.toArray());
            }
            return lists;
        } finally {
            remove(directory);
        }
    }

    private static void remove(Path directory) throws IOException {
        try (Stream<Path> files = Files.list(directory)) {
            for (Path file : files.toList()) {
                Files.delete(file);
            }
        }
        Files.delete(directory);
    }

    private static void noCallIsLeftOut(List<String> rows) {
        Set<String> shown = new TreeSet<>();
        for (String row : rows) {
            Matcher m = ROW.matcher(row);
            if (m.matches()) {
                shown.add(m.group(2));
            }
        }
        for (Method m : HeadMarks.class.getDeclaredMethods()) {
            if (Modifier.isPublic(m.getModifiers())) {
                CHECK.holds("the example has a call of " + m.getName(), shown.contains(m.getName()));
            }
        }
    }

    private static void eachTestIsNamed(String readme) throws IOException {
        try (Stream<Path> files = Files.list(Path.of("src/test/java"))) {
            for (Path file : files.toList()) {
                String name = file.getFileName().toString().replace(".java", "");
                if (name.endsWith("Test")) {
                    CHECK.holds("README.md tells of " + name, readme.contains(name));
                }
            }
        }
    }
}
