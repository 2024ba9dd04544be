import java.io.IOException;
import java.lang.reflect.Method;
import java.lang.reflect.Modifier;
import java.net.URL;
import java.net.URLClassLoader;
import java.nio.file.Files;
import java.nio.file.Path;
import java.util.ArrayList;
import java.util.List;
import java.util.Set;
import java.util.TreeSet;
import java.util.regex.Matcher;
import java.util.regex.Pattern;
import java.util.stream.Collectors;
import java.util.stream.Stream;
import javax.tools.JavaCompiler;
import javax.tools.ToolProvider;

/** README.md: its calls are compiled and run as they stand there, its answers, names and numbers compared. */
public final class ReadmeTest {
    private static final Check CHECK = new Check("ReadmeTest");
    private static final String START = "PointRings rings = new PointRings();";
    private static final Pattern ROW = Pattern.compile(
        "(?<kept>(?:int|long) (?<name>\\w+) = )?(?<call>rings\\.(?<of>\\w+)\\(.*\\));\\s*"
            + "// (?<answer>-?\\d+|NONE|BAD|NO|FULL)(?::.*)?");
    private static final Pattern CONSTANT = Pattern.compile("\\| `(\\w+)` \\| (-?\\d+) \\|.*");

    public static void main(String[] args) throws IOException, ReflectiveOperationException {
        List<String> rows = Files.readAllLines(Path.of("README.md"));
        calls(javaRows(rows));
        constants(rows);
        sources(String.join("\n", rows));
        CHECK.end();
    }

    private static List<String> javaRows(List<String> rows) {
        List<String> found = new ArrayList<>();
        boolean inside = false;
        for (String row : rows) {
            if (row.startsWith("```")) {
                inside = row.equals("```java");
            } else if (inside && !row.isBlank()) {
                found.add(row);
            }
        }
        return found;
    }

    private static void calls(List<String> rows) throws IOException, ReflectiveOperationException {
        List<Matcher> shown = new ArrayList<>();
        StringBuilder body = new StringBuilder();
        for (String row : rows) {
            Matcher parts = ROW.matcher(row);
            if (row.equals(START)) {
                body.append(row).append('\n');
            } else if (parts.matches()) {
                body.append(statement(parts, shown.size())).append('\n');
                shown.add(parts);
            } else {
                CHECK.holds("a row with a call and its answer: " + row, false);
            }
        }
        CHECK.due("all calls of the face are shown: " + missing(shown), missing(shown).size(), 0);
        long[] answers = run(body.toString(), shown.size());
        for (int i = 0; i < answers.length; i++) {
            CHECK.due(shown.get(i).group("call"), answers[i], number(shown.get(i).group("answer")));
        }
    }

    private static String statement(Matcher parts, int place) {
        String told = "told[" + place + "] = ";
        if (parts.group("kept") == null) {
            return told + parts.group("call") + ";";
        }
        return parts.group("kept") + parts.group("call") + "; " + told + parts.group("name") + ";";
    }

    private static Set<String> missing(List<Matcher> shown) {
        Set<String> missing = new TreeSet<>();
        for (Method m : PointRings.class.getDeclaredMethods()) {
            if (Modifier.isPublic(m.getModifiers())) {
                missing.add(m.getName());
            }
        }
        shown.forEach(parts -> missing.remove(parts.group("of")));
        return missing;
    }

    private static long[] run(String body, int many) throws IOException, ReflectiveOperationException {
        Path place = Files.createTempDirectory("readme");
        Path source = place.resolve("ReadmeRun.java");
        try {
            Files.writeString(source, "public final class ReadmeRun { public static long[] answers() {\n"
                + "long[] told = new long[" + many + "];\n" + body + "return told; } }\n");
            JavaCompiler compiler = ToolProvider.getSystemJavaCompiler();
            int failed = compiler.run(null, null, null, "-cp", System.getProperty("java.class.path"),
                "-d", place.toString(), source.toString());
            CHECK.due("the rows compile", failed, 0);
            if (failed != 0) {
                return new long[0];
            }
            try (URLClassLoader loader = new URLClassLoader(new URL[] {place.toUri().toURL()})) {
                return (long[]) loader.loadClass("ReadmeRun").getMethod("answers").invoke(null);
            }
        } finally {
            Files.deleteIfExists(place.resolve("ReadmeRun.class"));
            Files.deleteIfExists(source);
            Files.delete(place);
        }
    }

    private static long number(String answer) throws ReflectiveOperationException {
        return Character.isLetter(answer.charAt(0)) ? PointRings.class.getField(answer).getInt(null) : Long.parseLong(answer);
    }

    private static void constants(List<String> rows) throws ReflectiveOperationException {
        Set<String> told = new TreeSet<>();
        for (String row : rows) {
            Matcher parts = CONSTANT.matcher(row);
            if (parts.matches()) {
                told.add(parts.group(1));
                CHECK.due(parts.group(1), number(parts.group(1)), Long.parseLong(parts.group(2)));
            }
        }
        CHECK.holds("the four answers below 0: " + told, told.equals(Set.of("BAD", "NO", "FULL", "NONE")));
    }

    /** What README.md says of the tests: it names every file of them, and none that is not there. */
    private static void sources(String whole) throws IOException {
        Set<String> files;
        try (Stream<Path> found = Files.list(Path.of("src/test/java"))) {
            files = found.map(f -> f.getFileName().toString().replace(".java", "")).collect(Collectors.toSet());
        }
        for (String file : files) {
            CHECK.holds("README.md names " + file, whole.contains("`" + file + "`"));
        }
        Matcher named = Pattern.compile("\\b[A-Z]\\w*Test\\b").matcher(whole);
        while (named.find()) {
            CHECK.holds(named.group() + " is there", files.contains(named.group()));
        }
    }
}
