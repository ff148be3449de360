import java.io.IOException;
import java.net.URL;
import java.net.URLClassLoader;
import java.nio.file.Files;
import java.nio.file.Path;
import java.util.ArrayList;
import java.util.Comparator;
import java.util.List;
import java.util.Map;
import java.util.TreeSet;
import java.util.regex.Matcher;
import java.util.regex.Pattern;
import java.util.stream.Stream;
import javax.tools.ToolProvider;

/** README.md's example compiles, and each call in it answers what the comment behind it begins with. */
public final class ReadmeTest {
    private static final Pattern EXAMPLE = Pattern.compile("(?s)```java\n(.*?)```");
    private static final Pattern ANSWERED = Pattern.compile("(x\\.\\w+\\(.*\\));\\s*// (-?\\d+|[A-Z]+)\\b.*");
    private static final Map<String, Integer> NAMED =
            Map.of("NONE", Due.NONE, "BAD", Due.BAD, "STATE", Due.STATE, "FULL", Due.FULL);

    public static void main(String[] args) throws Exception {
        String readme = Files.readString(Path.of("README.md"));
        Matcher example = EXAMPLE.matcher(readme);
        Due.holds("README.md has an example", example.find());
        answersAreAsToldIn(example.group(1));
        Due.holds("README.md says how the tests are run", readme.contains("```sh\n.ci/run\n```"));
        testsAreNamedIn(readme);
        Due.end();
    }

    private static void answersAreAsToldIn(String example) throws Exception {
        List<String> calls = new ArrayList<>();
        List<Integer> told = new ArrayList<>();
        StringBuilder body = new StringBuilder();
        for (String line : example.split("\n")) {
            Matcher answered = ANSWERED.matcher(line.trim());
            if (answered.matches()) {
                String answer = answered.group(2);
                body.append("answers[").append(calls.size()).append("] = ").append(answered.group(1)).append(";\n");
                calls.add(answered.group(1));
                told.add(NAMED.containsKey(answer) ? NAMED.get(answer) : Integer.valueOf(answer));
            } else {
                Due.holds("an answer stands behind " + line, !line.startsWith("x."));
                body.append(line).append('\n');
            }
        }
        Due.holds("the example has calls with answers", calls.size() > 20);
        long[] answers = compiledAndRun(body.toString(), calls.size());
        for (int i = 0; i < calls.size(); i++) {
            Due.is(calls.get(i), answers[i], told.get(i));
        }
    }

    /** Beside the class as it is tested, in a folder that is gone behind it. */
    private static long[] compiledAndRun(String body, int calls) throws Exception {
        Path folder = Files.createTempDirectory("readme");
        try {
            Path source = folder.resolve("ReadmeExample.java");
            Files.writeString(source, "public final class ReadmeExample {\n"
                    + "public static long[] answers() {\nlong[] answers = new long[" + calls + "];\n"
                    + body + "return answers;\n}\n}\n");
            int failed = ToolProvider.getSystemJavaCompiler().run(null, null, null, "-cp",
                    System.getProperty("java.class.path"), "-d", folder.toString(), source.toString());
            Due.is("compiling the example", failed, 0);
            if (failed != 0) {
                return new long[calls];
            }
            try (URLClassLoader loader = new URLClassLoader(new URL[] {folder.toUri().toURL()})) {
                return (long[]) loader.loadClass("ReadmeExample").getMethod("answers").invoke(null);
            }
        } finally {
            remove(folder);
        }
    }

    private static void remove(Path folder) throws IOException {
        try (Stream<Path> files = Files.walk(folder)) {
            for (Path file : files.sorted(Comparator.reverseOrder()).toList()) {
                Files.delete(file);
            }
        }
    }

    private static void testsAreNamedIn(String readme) throws IOException {
        try (Stream<Path> files = Files.list(Path.of("src/test/java"))) {
            for (Path file : new TreeSet<>(files.toList())) {
                String name = file.getFileName().toString().replace(".java", "");
                Due.holds("README.md tells of " + name, !name.endsWith("Test") || readme.contains("`" + name + "`"));
            }
        }
    }

    private ReadmeTest() {
    }
}
