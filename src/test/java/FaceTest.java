import java.io.IOException;
import java.lang.reflect.Constructor;
import java.lang.reflect.Field;
import java.lang.reflect.Method;
import java.lang.reflect.Modifier;
import java.nio.file.Files;
import java.nio.file.Path;
import java.util.Arrays;
import java.util.Set;
import java.util.TreeSet;
import java.util.regex.Matcher;
import java.util.regex.Pattern;

/** What can be seen of the class from outside, and words that LANGUAGE.md rules out of its file. */
public final class FaceTest {
    private static final String SOURCE = "src/main/java/SilenceCoin.java";
    private static final String[] FACE = {
        "feed(long)", "end(int)", "text()", "fault()", "rule(int)", "one(int,int)", "coin(int,int)", "talk(int,int)",
        "law(int)", "fee(int)", "give(int,int)", "clip(int)", "spend(int,int)", "undo(int)", "speak(int,int,int)",
        "silent(int)", "quiet(int)", "may(int,int,int)", "said()", "knows(int,int)", "learns(int,int)",
        "hush(int,int,int)", "hear(int,boolean)", "forget(int)", "first()", "funeral(int,int,int)", "raid(int)",
        "settle(int,int)", "test(int,boolean)", "untest(int)", "fakes(int,int)", "next(int,int)", "chatter(int,int)",
        "keep(int)", "back(int)", "sheet(int,int,int)", "lay(int,int,int)", "read(int,int,int,int)", "torn()",
        "count(int)"};
    private static final String[] RULED_OUT = {"throw", "throws", "try", "catch", "finally", "synchronized", "assert",
        "import", "package", "Object", "System.out", "->", "::", "protected", "hashCode", "toString", "Exact"};
    private static int wrong = 0;

    private static void due(boolean is, String what) {
        if (!is) {
            wrong++;
            System.out.println(what);
        }
    }

    private static String written(Method m) {
        StringBuilder b = new StringBuilder(m.getName()).append('(');
        for (Class<?> c : m.getParameterTypes()) {
            b.append(b.charAt(b.length() - 1) == '(' ? "" : ",").append(c.getName());
        }
        return b.append(')').toString();
    }

    private static void members() {
        Class<?> face = SilenceCoin.class;
        due(Modifier.isFinal(face.getModifiers()) && Modifier.isPublic(face.getModifiers()), "class: public and final");
        Set<String> seen = new TreeSet<>();
        for (Method m : face.getDeclaredMethods()) {
            if (Modifier.isPrivate(m.getModifiers())) {
                continue;
            }
            seen.add(written(m));
            due(m.getModifiers() == Modifier.PUBLIC, m.getName() + ": public alone");
            due(m.getReturnType() == int.class, m.getName() + ": answers an int");
        }
        due(seen.equals(new TreeSet<>(Arrays.asList(FACE))), "methods seen: " + seen);
        Constructor<?>[] made = face.getDeclaredConstructors();
        due(made.length == 1 && made[0].getParameterCount() == 0 && Modifier.isPublic(made[0].getModifiers()),
            "one public constructor");
        Set<String> constants = new TreeSet<>();
        for (Field f : face.getDeclaredFields()) {
            if (!Modifier.isPrivate(f.getModifiers())) {
                constants.add(f.getName());
            }
            due(!Modifier.isStatic(f.getModifiers()) || Modifier.isFinal(f.getModifiers()), f.getName() + ": final");
        }
        due(constants.equals(new TreeSet<>(Arrays.asList("BAD", "STATE", "FULL", "NONE"))), "fields: " + constants);
    }

    private static void namesInside() {
        Set<String> face = new TreeSet<>();
        for (String m : FACE) {
            face.add(m.substring(0, m.indexOf('(')));
        }
        due(SilenceCoin.class.getDeclaredClasses().length <= 12, "at most twelve classes");
        for (Class<?> c : SilenceCoin.class.getDeclaredClasses()) {
            due(Modifier.isStatic(c.getModifiers()) && !Modifier.isPublic(c.getModifiers()), c.getName() + ": static");
            int fields = 0;
            for (Field f : c.getDeclaredFields()) {
                fields += Modifier.isStatic(f.getModifiers()) ? 0 : 1;
            }
            due(fields <= 20, c.getName() + ": " + fields + " fields");
            for (Method m : c.getDeclaredMethods()) {
                due(!face.contains(m.getName()), c.getName() + "." + m.getName() + " bears the name of a public one");
            }
        }
        for (Method m : SilenceCoin.class.getDeclaredMethods()) {
            due(!Modifier.isPrivate(m.getModifiers()) || !face.contains(m.getName()), m.getName() + " is private too");
            due(m.getParameterCount() <= 7, m.getName() + ": parameters");
        }
    }

    private static void words() throws IOException {
        String source = Files.readString(Path.of(SOURCE));
        due(source.chars().allMatch(c -> c < 128), "a sign beyond 127");
        String code = source.replaceAll("(?s)/\\*.*?\\*/", " ").replaceAll("//[^\\n]*", " ");
        for (String word : RULED_OUT) {
            boolean isWord = Character.isLetter(word.charAt(0));
            String pattern = isWord && !word.equals("Exact") ? "\\b" + Pattern.quote(word) + "\\b" : Pattern.quote(word);
            Matcher m = Pattern.compile(pattern).matcher(code);
            due(!m.find(), "ruled out: " + word);
        }
    }

    public static void main(String[] args) throws IOException {
        members();
        namesInside();
        words();
        System.out.println(wrong == 0 ? "the face is as told" : wrong + " faults of the face");
        if (wrong != 0) {
            System.exit(1);
        }
    }
}
