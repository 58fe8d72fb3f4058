import java.io.IOException;
import java.io.UncheckedIOException;
import java.nio.file.Files;
import java.nio.file.Path;
import java.util.concurrent.TimeUnit;
import java.util.stream.Stream;

/**
 * .ci/run passes and fails as README.md says: a copy of it is run in small folders, each with a class of one
 * call, a test of its own and one under ../shared/tests, of which one part is changed.
 */
public final class RunTest {
    private static final String CLASS = "public final class SilenceCoin { public int said() { return 0; } }";
    private static final String HELP = "final class Help { static int due() { return new SilenceCoin().said(); } }";
    private static final String NO_JAVA = "public final class { }";
    private static final int LONGEST_SECONDS = 120;

    /** The texts of the files, null where there is none; and what the script has to answer. */
    record Case(String name, String main, String own, String shared, boolean passes) { }

    private static final Case[] CASES = {
        new Case("all pass", CLASS, ending("Own", "Help.due()"), ending("Shared", "0"), true),
        new Case("an own test fails", CLASS, ending("Own", "1"), ending("Shared", "0"), false),
        new Case("a shared test fails", CLASS, ending("Own", "0"), ending("Shared", "1"), false),
        new Case("a test throws", CLASS, ending("Own", "1 / new SilenceCoin().said()"), ending("Shared", "0"), false),
        new Case("the class is no Java", NO_JAVA, ending("Own", "0"), ending("Shared", "0"), false),
        new Case("an own test is no Java", CLASS, NO_JAVA, ending("Shared", "0"), false),
        new Case("a shared test is no Java", CLASS, ending("Own", "0"), NO_JAVA, false),
        new Case("no own test", CLASS, null, ending("Shared", "0"), false),
        new Case("no shared test", CLASS, ending("Own", "0"), null, false),
    };

    private static String ending(String name, String code) {
        return "public final class " + name + " { public static void main(String[] args) { System.exit(" + code + "); } }";
    }

    public static void main(String[] args) {
        long wrong = Stream.of(CASES).parallel().filter(c -> !isAsTold(c)).count();
        System.out.println(CASES.length + " folders, " + wrong + " not as due");
        if (wrong != 0) {
            System.exit(1);
        }
    }

    private static boolean isAsTold(Case c) {
        try {
            Path folder = Files.createTempDirectory("run");
            try {
                int code = run(folder, c);
                boolean isDue = code == (c.passes ? 0 : 1);
                if (!isDue) {
                    System.out.println(".ci/run, " + c.name + ": exit code " + code);
                }
                return isDue;
            } finally {
                Folder.remove(folder);
            }
        } catch (IOException e) {
            throw new UncheckedIOException(e);
        }
    }

    private static void put(Path file, String text) throws IOException {
        Files.createDirectories(file.getParent());
        if (text != null) {
            Files.writeString(file, text);
        }
    }

    private static int run(Path folder, Case c) throws IOException {
        Path project = folder.resolve("main");
        Path script = project.resolve(".ci/run");
        Files.createDirectories(script.getParent());
        Files.copy(Path.of(".ci/run"), script);
        if (!script.toFile().setExecutable(true)) {
            return -1;
        }
        put(project.resolve("src/main/java/SilenceCoin.java"), c.main);
        put(project.resolve("src/test/help/Help.java"), HELP);
        put(project.resolve("src/test/java/Own.java"), c.own);
        put(folder.resolve("shared/tests/Shared.java"), c.shared);
        // from another folder than the project's: the script finds its way by its own place
        Process p = new ProcessBuilder(script.toString()).directory(folder.toFile()).redirectErrorStream(true)
            .redirectOutput(folder.resolve("told").toFile()).start();
        try {
            if (!p.waitFor(LONGEST_SECONDS, TimeUnit.SECONDS)) {
                p.destroyForcibly().waitFor();
                return -1;
            }
        } catch (InterruptedException e) {
            return -1;
        }
        return p.exitValue();
    }
}
