import java.io.IOException;
import java.lang.reflect.Constructor;
import java.lang.reflect.Field;
import java.lang.reflect.Method;
import java.lang.reflect.Modifier;
import java.nio.file.Files;
import java.nio.file.Path;
import java.util.Arrays;
import java.util.Set;
import java.util.TreeSet;
import java.util.regex.Matcher;
import java.util.regex.Pattern;

/** The document's face, whole and nothing else, and those rules of LANGUAGE.md that are easy to see. */
public final class FaceTest {
    private static final String[] FACE = {
        "new()",
        "int BAD", "int FULL", "long NONE", "long BROKEN",
        "int create()", "int snapshot(int, boolean)", "int destroy(int)",
        "int write(int, int, int)", "int punch(int, int)", "int share(int, int, int, int, int)",
        "long read(int, int)", "int blockAt(int, int)",
        "boolean spoil(int, int)", "int lose(int)", "boolean replace(int)", "int scrub(int)",
        "int count(int)", "int holders(int)", "int own(int)",
        "int differ(int, int)", "int difference(int, int, int)",
        "int send(int, int)", "int receive(int)", "long entry(int)",
    };

    private static final String FORBIDDEN =
        "\\b(import|package|throw|throws|try|catch|synchronized|assert|instanceof|null|float|double"
        + "|String|Math|Integer|Long|System|Arrays|Object|interface|enum|record|protected)\\b|->|::|\\[\\]\\s*\\[";

    public static void main(String[] args) throws IOException {
        Checks.due("BAD", CowStore.BAD, -1);
        Checks.due("FULL", CowStore.FULL, -2);
        Checks.due("NONE", CowStore.NONE, 1000000000000L);
        Checks.due("BROKEN", CowStore.BROKEN, 1000000000001L);
        face();
        members();
        words();
        Checks.end();
    }

    private static void face() {
        Set<String> want = new TreeSet<>(Arrays.asList(FACE));
        Set<String> got = new TreeSet<>();
        Class<?> type = CowStore.class;
        for (Constructor<?> c : type.getDeclaredConstructors()) {
            if (!Modifier.isPrivate(c.getModifiers())) {
                got.add("new" + parameters(c.getParameterTypes()));
            }
        }
        for (Field f : type.getDeclaredFields()) {
            if (!Modifier.isPrivate(f.getModifiers())) {
                got.add(f.getType() + " " + f.getName());
            }
        }
        for (Method m : type.getDeclaredMethods()) {
            if (!Modifier.isPrivate(m.getModifiers())) {
                got.add(m.getReturnType() + " " + m.getName() + parameters(m.getParameterTypes()));
            }
        }
        for (String member : want) {
            Checks.due("in the face: " + member, got.contains(member), true);
        }
        for (String member : got) {
            Checks.due("asked by the document: " + member, want.contains(member), true);
        }
        int modifiers = Modifier.PUBLIC | Modifier.FINAL;
        Checks.due("public final", type.getModifiers() & modifiers, modifiers);
        Checks.due("nested classes", type.getDeclaredClasses().length, 0);
    }

    private static String parameters(Class<?>[] types) {
        StringBuilder text = new StringBuilder();
        for (Class<?> type : types) {
            text.append(text.length() == 0 ? "" : ", ").append(type);
        }
        return "(" + text + ")";
    }

    private static void members() {
        int fields = 0;
        for (Field f : CowStore.class.getDeclaredFields()) {
            Class<?> type = f.getType();
            boolean isStatic = Modifier.isStatic(f.getModifiers());
            Class<?> kind = type.isArray() ? type.getComponentType() : type;
            Checks.due("a number type: " + f.getName(), kind.isPrimitive(), true);
            Checks.due("static is int or long, final: " + f.getName(),
                !isStatic || (Modifier.isFinal(f.getModifiers()) && (type == int.class || type == long.class)), true);
            fields += isStatic ? 0 : 1;
        }
        Checks.due("at most forty fields", fields <= 40, true);
        Set<String> open = new TreeSet<>();
        for (Method m : CowStore.class.getDeclaredMethods()) {
            if (Modifier.isPublic(m.getModifiers())) {
                open.add(m.getName());
            }
        }
        for (Method m : CowStore.class.getDeclaredMethods()) {
            Checks.due("at most seven parameters: " + m.getName(), m.getParameterCount() <= 7, true);
            Checks.due("answers no array: " + m.getName(), m.getReturnType().isPrimitive(), true);
            Checks.due("bears its own name: " + m.getName(),
                Modifier.isPublic(m.getModifiers()) || !open.contains(m.getName()), true);
        }
    }

    private static void words() throws IOException {
        String source = Files.readString(Path.of("src/main/java/CowStore.java"));
        String code = source.replaceAll("(?s)/\\*.*?\\*/", "").replaceAll("//[^\\n]*", "");
        Matcher found = Pattern.compile(FORBIDDEN).matcher(code);
        while (found.find()) {
            Checks.due("words outside LANGUAGE.md: " + found.group(), 1, 0);
        }
    }
}
