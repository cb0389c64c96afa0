import java.io.IOException;
import java.lang.reflect.Method;
import java.nio.file.Files;
import java.nio.file.Path;
import java.util.Set;
import java.util.TreeSet;
import java.util.regex.Matcher;
import java.util.regex.Pattern;
import java.util.stream.Stream;
import javax.tools.ToolProvider;

/** What README.md says of the class and of its tests is so. */
public final class ReadmeTest {
    private static int passed;
    private static int failed;

    public static void main(String[] args) throws Exception {
        String readme = Files.readString(Path.of("README.md"));
        theExampleAnswersSo(readme);
        theTablesNameEveryCallAndItem(readme);
        theTestsAreThoseOfCi(readme);
        System.out.println(passed + " passed, " + failed + " failed");
        if (failed > 0) {
            System.exit(1);
        }
    }

    private static void check(boolean ok, String what) {
        if (ok) {
            passed++;
        } else {
            failed++;
            System.out.println(what);
        }
    }

    /** Called by the example, once its calls are wrapped. */
    public static void due(String call, Object got, Object want) {
        check(got.equals(want), "README.md: " + call + " answered " + got + ", told is " + want);
    }

    /** Each "x.call(..); // answer" becomes a comparison; then the example is compiled and run. */
    private static void theExampleAnswersSo(String readme) throws Exception {
        Matcher block = Pattern.compile("(?s)```java\n(.*?)```").matcher(readme);
        check(block.find(), "README.md has no example");
        Matcher calls = Pattern.compile("(?m)^ *(x\\.\\w+\\(.*?\\)); +// (-?\\d+|true|false)\\b.*$").matcher(block.group(1));
        String source = calls.replaceAll("ReadmeTest.due(\"$1\", $1, $2);");
        int told = passed + failed;
        Path folder = Files.createTempDirectory("readme");
        try {
            Path file = Files.writeString(folder.resolve("Example.java"), source);
            int wrong = ToolProvider.getSystemJavaCompiler().run(null, null, null,
                    "-cp", System.getProperty("java.class.path"), "-d", folder.toString(), file.toString());
            check(wrong == 0, "README.md: the example does not compile");
            try (java.net.URLClassLoader loader = new java.net.URLClassLoader(new java.net.URL[] {folder.toUri().toURL()},
                    ReadmeTest.class.getClassLoader())) {
                loader.loadClass("Example").getMethod("main", String[].class).invoke(null, (Object) new String[0]);
            }
        } finally {
            removeAll(folder);
        }
        long statements = block.group(1).lines().filter(l -> l.startsWith("        x.")).count();
        check(passed + failed - told == statements + 1, "README.md: a call of the example tells no answer");
    }

    private static void removeAll(Path folder) throws IOException {
        try (Stream<Path> files = Files.list(folder)) {
            for (Path file : files.toList()) {
                Files.delete(file);
            }
        }
        Files.delete(folder);
    }

    private static Set<String> allMatches(String pattern, String text) {
        Set<String> all = new TreeSet<>();
        Matcher m = Pattern.compile(pattern).matcher(text);
        while (m.find()) {
            all.add(m.group(1));
        }
        return all;
    }

    private static void theTablesNameEveryCallAndItem(String readme) {
        String calls = readme.substring(readme.indexOf("| to | calls |"), readme.indexOf("What is refused"));
        Set<String> face = new TreeSet<>();
        for (Method m : ThreeLifts.class.getMethods()) {
            if (m.getDeclaringClass() == ThreeLifts.class) {
                face.add(m.getName());
            }
        }
        Set<String> named = allMatches("`(\\w+)`", calls);
        check(named.equals(face), "README.md: the calls are " + face + ", told are " + named);
        String items = readme.substring(readme.indexOf("| of `l` |"), readme.indexOf("A LAW ("));
        StringBuilder letters = new StringBuilder();
        for (String row : items.split("\n")) {
            allMatches("`(\\w)`", row.startsWith("| of") ? "" : row).forEach(letters::append);
        }
        for (String letter : "s j b d f c w o p m c t s e".split(" ")) {
            int at = letters.indexOf(letter);
            check(at >= 0, "README.md: no item " + letter);
            if (at >= 0) {
                letters.deleteCharAt(at);
            }
        }
        check(letters.length() <= 0, "README.md: no such items " + letters);
    }

    private static void theTestsAreThoseOfCi(String readme) throws IOException {
        String script = Files.readString(Path.of(".ci/run"));
        Matcher row = Pattern.compile("for test in ([\\w ]+); do").matcher(script);
        check(row.find(), ".ci/run: no row of tests");
        Set<String> run = new TreeSet<>(Set.of(row.group(1).split(" ")));
        Set<String> told = allMatches("(?m)^- `(\\w+Test)`", readme);
        check(run.equals(told), "README.md tells of " + told + ", .ci/run runs " + run);
        Set<String> written = new TreeSet<>();
        try (Stream<Path> files = Files.list(Path.of("src/test/java"))) {
            for (Path file : files.toList()) {
                if (Files.readString(file).contains("public static void main(")) {
                    written.add(file.getFileName().toString().replace(".java", ""));
                }
            }
        }
        check(run.equals(written), ".ci/run runs " + run + ", there are " + written);
        check(script.contains("\"$shared\"/tests/*.java"), ".ci/run: not every test under ../shared/tests");
    }
}
