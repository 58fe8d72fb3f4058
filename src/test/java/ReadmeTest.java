import java.io.IOException;
import java.io.UncheckedIOException;
import java.lang.reflect.Method;
import java.lang.reflect.Modifier;
import java.net.URL;
import java.net.URLClassLoader;
import java.nio.charset.StandardCharsets;
import java.nio.file.Files;
import java.nio.file.Path;
import java.util.List;
import java.util.Set;
import java.util.TreeSet;
import java.util.regex.Matcher;
import java.util.regex.Pattern;
import java.util.stream.Stream;
import javax.tools.JavaCompiler;
import javax.tools.ToolProvider;

/**
 * What README.md says is so: its blocks of Java are made one program, in which each call is held to the answer
 * behind it; every call of the face is shown; the tests and the classes that it names are those that there are.
 */
public final class ReadmeTest {
    private static final Path README = Path.of("README.md"), TESTS = Path.of("src/test/java");
    private static final Path HELP = Path.of("src/test/help"), RUN = Path.of(".ci/run");
    private static final Pattern BLOCK = Pattern.compile("(?ms)^```java\\n(.*?)^```$");
    private static final Pattern STATEMENT_ENDS = Pattern.compile(";\\s*(//.*)?$");
    private static final Pattern MADE = Pattern.compile("^SilenceCoin x = new SilenceCoin\\(\\);$");
    private static final Pattern ANSWERED =
        Pattern.compile("(?s)^((\\w+\\.)?(\\w+)\\(.*\\));\\s*// (-?\\d+|BAD|STATE|FULL|NONE): \\S.*$");
    private static final Pattern FED = Pattern.compile("^x\\.feed\\(0x([0-9a-f]{16})L\\);.*\"(.*)\"$");

    private static int wrong = 0;

    private final StringBuilder members = new StringBuilder();
    private final StringBuilder calls = new StringBuilder();
    private final Set<String> shown = new TreeSet<>();
    private int answers = 0;

    private static void due(boolean is, String what) {
        if (!is) {
            wrong++;
            System.out.println("README.md: " + what);
        }
    }

    public static void main(String[] args) throws IOException, ReflectiveOperationException {
        String page = Files.readString(README);
        ReadmeTest test = new ReadmeTest();
        Matcher blocks = BLOCK.matcher(page);
        while (blocks.find()) {
            test.take(blocks.group(1));
        }
        test.checkShown();
        test.run();
        checkTestsNamed(page);
        checkClassesNamed(page);
        due(page.contains("\n    .ci/run\n") && Files.isExecutable(RUN), ".ci/run is what runs the tests");
        System.out.println(test.answers + " answers of README.md, " + wrong + " faults");
        if (wrong != 0) {
            System.exit(1);
        }
    }

    private void take(String block) {
        if (block.startsWith("static ")) {
            members.append(block);
            return;
        }
        StringBuilder statement = new StringBuilder();
        for (String line : block.split("\n")) {
            statement.append(statement.length() == 0 ? "" : "\n").append(line);
            if (STATEMENT_ENDS.matcher(line).find()) {
                takeStatement(statement.toString());
                statement.setLength(0);
            }
        }
        due(statement.length() == 0, "no end of: " + statement);
    }

    private void takeStatement(String statement) {
        if (MADE.matcher(statement).matches()) {
            calls.append(statement).append('\n');
            return;
        }
        Matcher m = ANSWERED.matcher(statement);
        if (!m.matches()) {
            due(false, "no answer behind: " + statement);
            return;
        }
        String call = m.group(1);
        String answer = Character.isLetter(m.group(4).charAt(0)) ? "SilenceCoin." + m.group(4) : m.group(4);
        if (m.group(2) != null) {
            shown.add(m.group(3));
        }
        answers++;
        calls.append("due(").append(quoted(call)).append(", ").append(call).append(", ").append(answer).append(");\n");
        checkBytes(statement);
    }

    private static String quoted(String text) {
        return '"' + text.replace("\\", "\\\\").replace("\"", "\\\"").replace("\n", " ") + '"';
    }

    private static void checkBytes(String statement) {
        Matcher fed = FED.matcher(statement);
        if (fed.matches()) {
            byte[] bytes = fed.group(2).getBytes(StandardCharsets.US_ASCII);
            StringBuilder figures = new StringBuilder();
            for (byte b : bytes) {
                figures.append(String.format("%02x", b));
            }
            due(figures.toString().equals(fed.group(1)), "not these bytes: " + statement);
        }
    }

    private void checkShown() {
        Set<String> face = new TreeSet<>();
        for (Method m : SilenceCoin.class.getDeclaredMethods()) {
            if (Modifier.isPublic(m.getModifiers())) {
                face.add(m.getName());
            }
        }
        due(shown.equals(face), "shown are " + shown + ", there are " + face);
        due(answers <= 512, "an object is used for at most 512 calls");
    }

    private String program() {
        return "public final class ReadmeRun {\n"
            + "private static int wrong = 0;\n"
            + "private static void due(String call, int got, int want) {\n"
            + "if (got != want) { wrong++; "
            + "System.out.println(\"README.md: \" + call + \" answered \" + got + \", it tells \" + want); } }\n"
            + members
            + "public static int run() {\n" + calls + "return wrong;\n}\n}\n";
    }

    private void run() throws IOException, ReflectiveOperationException {
        Path out = Files.createTempDirectory("readme");
        try {
            Path source = out.resolve("ReadmeRun.java");
            Files.writeString(source, program());
            JavaCompiler compiler = ToolProvider.getSystemJavaCompiler();
            int code = compiler.run(null, System.out, System.out, "-cp", System.getProperty("java.class.path"),
                "-d", out.toString(), source.toString());
            due(code == 0, "its blocks are no program");
            if (code == 0) {
                try (URLClassLoader loader = new URLClassLoader(new URL[] {out.toUri().toURL()})) {
                    wrong += (int) loader.loadClass("ReadmeRun").getMethod("run").invoke(null);
                }
            }
        } finally {
            Folder.remove(out);
        }
    }

    private static Set<String> named(String part) {
        Set<String> names = new TreeSet<>();
        Matcher m = Pattern.compile("`([A-Z][A-Za-z]*)`").matcher(part);
        while (m.find()) {
            names.add(m.group(1));
        }
        return names;
    }

    private static List<String> javaFiles(Path folder) {
        try (Stream<Path> all = Files.list(folder)) {
            return all.map(p -> p.getFileName().toString()).filter(n -> n.endsWith(".java"))
                .map(n -> n.substring(0, n.length() - 5)).toList();
        } catch (IOException e) {
            throw new UncheckedIOException(e);
        }
    }

    private static String part(String page, String head) {
        int from = page.indexOf("\n## " + head + "\n");
        due(from >= 0, "no part: " + head);
        int to = from < 0 ? 0 : page.indexOf("\n## ", from + 1);
        return from < 0 ? "" : page.substring(from, to < 0 ? page.length() : to);
    }

    private static void checkTestsNamed(String page) {
        Set<String> there = new TreeSet<>(javaFiles(TESTS));
        there.addAll(javaFiles(HELP));
        Set<String> named = named(part(page, "How to run its tests"));
        due(named.equals(there), "tests named " + named + ", there are " + there);
    }

    private static void checkClassesNamed(String page) {
        Set<String> there = new TreeSet<>();
        for (Class<?> c : SilenceCoin.class.getDeclaredClasses()) {
            there.add(c.getSimpleName());
        }
        Set<String> named = named(part(page, "How it is built"));
        due(named.equals(there), "classes named " + named + ", there are " + there);
    }
}
