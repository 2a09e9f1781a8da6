import java.io.IOException;
import java.lang.reflect.Field;
import java.lang.reflect.Method;
import java.lang.reflect.Modifier;
import java.net.URL;
import java.net.URLClassLoader;
import java.nio.file.Files;
import java.nio.file.Path;
import java.util.ArrayList;
import java.util.Comparator;
import java.util.List;
import java.util.Map;
import java.util.Set;
import java.util.TreeMap;
import java.util.TreeSet;
import java.util.regex.Matcher;
import java.util.regex.Pattern;
import java.util.stream.Collectors;
import java.util.stream.Stream;
import javax.tools.ToolProvider;

/** README.md tells of each call what DOC.md says of it, and its examples are so when they are run. */
public final class ReadmeTest {
    private static final Pattern PROMISE = Pattern.compile("(?m)^## Promise (\\d+): .*\n\n`([^`]+)`: (.*)$");
    private static final Pattern ROW = Pattern.compile("(?m)^\\| `([^`]+\\))` \\| (.*) \\| (\\d+) \\|$");
    private static final Pattern CONSTANT = Pattern.compile("(?m)^\\| `([A-Z]+)` \\| (-\\d+) \\|");
    private static final Pattern TEST = Pattern.compile("(?m)^\\| `(\\w+Test)` \\|");
    private static final Pattern BLOCK = Pattern.compile("(?ms)^```java\n(.*?)^```$");
    private static final Pattern ASKED = Pattern.compile("(maps\\.(\\w+)\\(.*\\)); +// (-?\\d+|[A-Z][A-Z +]+)(:.*)?");
    private static final Pattern PLAIN = Pattern.compile("EatenMaps maps = new EatenMaps\\(\\);|write\\(maps, \".*\"\\);");

    private final Due due = new Due();
    private final Set<String> called = new TreeSet<>();
    private final String readme;

    private ReadmeTest() throws IOException {
        readme = Files.readString(Path.of("README.md"));
    }

    public static void main(String[] args) throws Exception {
        ReadmeTest test = new ReadmeTest();
        test.wordsOfTheDocument();
        test.constants();
        test.testsAreNamed();
        test.examples();
        test.eachCallIsShown();
        test.due.end();
    }

    private void yes(String what, boolean so) {
        due.is(what, 1, so ? 1 : 0);
    }

    private void wordsOfTheDocument() throws IOException {
        due.of("README, the calls");
        List<String> promises = new ArrayList<>();
        Matcher promise = PROMISE.matcher(Files.readString(Path.of("../shared/DOC.md")));
        while (promise.find()) {
            promises.add(promise.group(2) + " | " + promise.group(3) + " | " + promise.group(1));
        }
        List<String> rows = new ArrayList<>();
        Matcher row = ROW.matcher(readme);
        while (row.find()) {
            rows.add(row.group(1) + " | " + row.group(2) + " | " + row.group(3));
        }
        due.is("promises in the document", 28, promises.size());
        due.is("calls in README.md", promises.size(), rows.size());
        for (int i = 0; i < promises.size() && i < rows.size(); i++) {
            yes(rows.get(i) + " is " + promises.get(i), rows.get(i).equals(promises.get(i)));
        }
    }

    private void constants() throws IllegalAccessException {
        due.of("README, the constants");
        Map<String, Long> told = new TreeMap<>();
        Matcher constant = CONSTANT.matcher(readme);
        while (constant.find()) {
            told.put(constant.group(1), Long.parseLong(constant.group(2)));
        }
        Map<String, Long> are = new TreeMap<>();
        for (Field field : EatenMaps.class.getDeclaredFields()) {
            if (Modifier.isPublic(field.getModifiers())) {
                are.put(field.getName(), field.getLong(null));
            }
        }
        yes(told + " is " + are, told.equals(are));
    }

    private void testsAreNamed() throws IOException {
        due.of("README, the tests");
        Set<String> named = new TreeSet<>();
        Matcher test = TEST.matcher(readme);
        while (test.find()) {
            named.add(test.group(1));
        }
        try (Stream<Path> files = Files.list(Path.of("src/test/java"))) {
            Set<String> are = files.map(file -> file.getFileName().toString().replace(".java", ""))
                .filter(name -> name.endsWith("Test")).collect(Collectors.toCollection(TreeSet::new));
            yes(named + " is " + are, named.equals(are));
        }
    }

    /** The examples as a class: helpers as they stand, each other block a method that notes call, due and answer. */
    private String source() {
        StringBuilder members = new StringBuilder();
        StringBuilder runs = new StringBuilder();
        Matcher block = BLOCK.matcher(readme);
        int blocks = 0;
        while (block.find()) {
            if (block.group(1).startsWith("static ")) {
                members.append(block.group(1));
                continue;
            }
            blocks++;
            String name = "block" + blocks;
            members.append("static void ").append(name).append("(java.util.List<Object[]> noted) {\n");
            block.group(1).lines().forEach(line -> members.append(noted(line)).append('\n'));
            members.append("}\n");
            runs.append(name).append("(noted);\n");
        }
        return "public final class ReadmeRuns {\n" + members
            + "public static void run(java.util.List<Object[]> noted) {\n" + runs + "}\n}\n";
    }

    private String noted(String line) {
        Matcher asked = ASKED.matcher(line);
        if (asked.matches()) {
            called.add(asked.group(2));
            String want = asked.group(3).replaceAll("[A-Z]+", "EatenMaps.$0");
            String call = asked.group(1);
            return "noted.add(new Object[] {\"" + call + "\", (long) (" + want + "), (long) " + call + "});";
        }
        yes("a call with its answer, or a plain line: " + line, PLAIN.matcher(line).matches());
        return line;
    }

    private void examples() throws Exception {
        due.of("README, the examples");
        Path folder = Files.createTempDirectory("readme");
        try {
            Path file = folder.resolve("ReadmeRuns.java");
            Files.writeString(file, source());
            String classes = System.getProperty("java.class.path");
            int exit = ToolProvider.getSystemJavaCompiler()
                .run(null, null, null, "-cp", classes, "-d", folder.toString(), file.toString());
            due.is("javac on the examples", 0, exit);
            if (exit == 0) {
                runCompiled(folder);
            }
        } finally {
            remove(folder);
        }
    }

    private void runCompiled(Path folder) throws Exception {
        List<Object[]> noted = new ArrayList<>();
        try (URLClassLoader loader = new URLClassLoader(new URL[] {folder.toUri().toURL()})) {
            loader.loadClass("ReadmeRuns").getMethod("run", List.class).invoke(null, noted);
        }
        yes("calls with answers are found", noted.size() > 28);
        for (Object[] one : noted) {
            due.is((String) one[0], (Long) one[1], (Long) one[2]);
        }
    }

    private static void remove(Path folder) throws IOException {
        try (Stream<Path> files = Files.walk(folder)) {
            for (Path file : files.sorted(Comparator.reverseOrder()).toList()) {
                Files.delete(file);
            }
        }
    }

    private void eachCallIsShown() {
        due.of("README, the examples");
        for (Method method : EatenMaps.class.getDeclaredMethods()) {
            if (Modifier.isPublic(method.getModifiers())) {
                yes("shown with an answer: " + method.getName(), called.contains(method.getName()));
            }
        }
    }
}
