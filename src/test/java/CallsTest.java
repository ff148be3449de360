import java.io.PrintWriter;
import java.io.StringWriter;
import java.nio.file.Files;
import java.nio.file.Path;
import java.util.ArrayList;
import java.util.List;
import java.util.Map;
import java.util.Set;
import java.util.TreeMap;
import java.util.TreeSet;
import java.util.regex.Matcher;
import java.util.regex.Pattern;
import java.util.spi.ToolProvider;
import java.util.stream.Stream;

/** LANGUAGE.md's rules of calls (4, 8, 11, 12), looked for in the class files as javap tells them. */
public final class CallsTest {
    private static final Pattern METHOD = Pattern.compile("^  (?:\\S.* )?([\\w$]+)\\(.*\\);$");
    private static final Pattern CALL =
            Pattern.compile("invoke\\w+\\s+#\\d+(?:,\\s+\\d+)?\\s*// \\w+ (?:([\\w/$]+)\\.)?\"?([\\w<>]+)\"?:");
    private static final Pattern MAKING = Pattern.compile("^\\s+\\d+: (new|newarray|anewarray|multianewarray)\\b");
    private static final Set<String> LIBRARY = Set.of("java/lang/Object.<init>", "java/lang/Integer.bitCount",
            "java/lang/Math.min", "java/lang/Math.max", "java/lang/Math.abs", "java/lang/System.arraycopy");
    private static final int DEEPEST = 8;

    private final Map<String, Set<String>> calls = new TreeMap<>();
    private final Set<String> making = new TreeSet<>();

    public static void main(String[] args) throws Exception {
        CallsTest test = new CallsTest();
        Path classes = Path.of(YieldDoors.class.getProtectionDomain().getCodeSource().getLocation().toURI());
        for (Path file : classFiles(classes)) {
            test.read(file);
        }
        Due.holds("the calls of the face are found", test.calls.containsKey("YieldDoors.bows"));
        test.goAtMostEightDeepAndNeverRound();
        test.useTheLibraryAsToldAlone();
        test.makeObjectsInConstructorsAlone();
        Due.end();
    }

    private static List<Path> classFiles(Path classes) throws Exception {
        try (Stream<Path> files = Files.list(classes)) {
            return files.filter(file -> file.getFileName().toString().matches("YieldDoors(\\$\\w+)?\\.class")).toList();
        }
    }

    private void read(Path file) {
        String owner = file.getFileName().toString().replace(".class", "");
        StringWriter told = new StringWriter();
        PrintWriter out = new PrintWriter(told);
        ToolProvider.findFirst("javap").orElseThrow().run(out, out, "-p", "-c", file.toString());
        String method = "";
        for (String line : told.toString().split("\\R")) {
            Matcher begun = METHOD.matcher(line);
            Matcher call = CALL.matcher(line);
            if (begun.matches()) {
                method = owner + "." + (begun.group(1).equals(owner) ? "<init>" : begun.group(1));
                calls.putIfAbsent(method, new TreeSet<>());
            } else if (line.contains("static {}")) {
                method = owner + ".<clinit>";
                calls.putIfAbsent(method, new TreeSet<>());
            } else if (call.find()) {
                calls.get(method).add((call.group(1) == null ? owner : call.group(1)) + "." + call.group(2));
            } else if (MAKING.matcher(line).find()) {
                making.add(method);
            }
        }
    }

    private void goAtMostEightDeepAndNeverRound() {
        for (String method : calls.keySet()) {
            List<String> open = new ArrayList<>();
            int depth = depth(method, open);
            Due.holds(method + " goes " + depth + " deep", depth >= 1 && depth <= DEEPEST);
        }
    }

    /** How many calls stand open at once from this one on; far too many, if they come round again. */
    private int depth(String method, List<String> open) {
        if (open.contains(method)) {
            return 1000;
        }
        open.add(method);
        int deepest = 0;
        for (String called : calls.getOrDefault(method, Set.of())) {
            deepest = Math.max(deepest, depth(called, open));
        }
        open.remove(method);
        return deepest + 1;
    }

    private void useTheLibraryAsToldAlone() {
        for (Map.Entry<String, Set<String>> method : calls.entrySet()) {
            for (String called : method.getValue()) {
                Due.holds(method.getKey() + " may call " + called, calls.containsKey(called) || LIBRARY.contains(called));
            }
        }
    }

    private void makeObjectsInConstructorsAlone() {
        Due.holds("the constructors make something", making.contains("YieldDoors.<init>"));
        for (String method : making) {
            Due.holds(method + " makes nothing", method.endsWith(".<init>") || method.endsWith(".<clinit>"));
        }
    }

    private CallsTest() {
    }
}
