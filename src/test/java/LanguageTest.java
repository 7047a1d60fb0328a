import java.io.IOException;
import java.lang.reflect.Constructor;
import java.lang.reflect.Field;
import java.lang.reflect.Method;
import java.lang.reflect.Modifier;
import java.nio.file.Files;
import java.nio.file.Path;
import java.util.ArrayList;
import java.util.Arrays;
import java.util.HashSet;
import java.util.List;
import java.util.Set;
import java.util.TreeSet;
import java.util.regex.Matcher;
import java.util.regex.Pattern;

/** The face of the document to the letter, and those rules of LANGUAGE.md that a test can see. */
public final class LanguageTest {
    private static final Check CHECK = new Check("LanguageTest");

    private static final String[] FACE = {
        "void reset(int, int, int) IllegalArgumentException",
        "int write(int, int) IndexOutOfBoundsException IllegalStateException",
        "int delete(int) IndexOutOfBoundsException NoSuchElementException",
        "int get(int) IndexOutOfBoundsException NoSuchElementException",
        "int addressOf(int) IndexOutOfBoundsException",
        "int room()",
        "int versions(int) IndexOutOfBoundsException",
        "int version(int, int) IndexOutOfBoundsException",
        "int takeSnapshot(int) IndexOutOfBoundsException IllegalStateException",
        "int dropSnapshot(int) IndexOutOfBoundsException IllegalStateException",
        "int rollBack(int) IndexOutOfBoundsException IllegalStateException",
        "int getFrom(int, int) IndexOutOfBoundsException IllegalStateException NoSuchElementException",
        "int changedSince(int) IndexOutOfBoundsException IllegalStateException",
        "int difference(int, int) IndexOutOfBoundsException IllegalStateException",
        "int ownBlocks(int) IndexOutOfBoundsException IllegalStateException",
        "int enter(int) IndexOutOfBoundsException IllegalStateException",
        "int leave(int) IndexOutOfBoundsException IllegalStateException",
        "int announce(int) IndexOutOfBoundsException IllegalStateException",
        "int hold(int, int) IndexOutOfBoundsException IllegalStateException NoSuchElementException",
        "int release(int, int) IndexOutOfBoundsException NoSuchElementException",
        "int read(int, int) IndexOutOfBoundsException NoSuchElementException",
        "int reader(int, int) IndexOutOfBoundsException IllegalArgumentException",
        "int blockers()",
        "int expel(int) IndexOutOfBoundsException IllegalStateException",
        "int reclaimableWithout(int) IndexOutOfBoundsException",
        "int costliestReader()",
        "int advance() IllegalStateException",
        "int pass(int) IllegalArgumentException IllegalStateException",
        "int count(int) IllegalArgumentException",
        "int blocks(int) IllegalArgumentException",
        "int segment(int, int) IndexOutOfBoundsException IllegalArgumentException",
        "int meanAge(int, boolean) IndexOutOfBoundsException NoSuchElementException",
        "int block(int, int) IndexOutOfBoundsException IllegalArgumentException",
        "int neededBy(int) IndexOutOfBoundsException",
        "int waiting(int) IllegalArgumentException",
        "int reclaim()",
        "int wouldErase()",
        "int advancesToErase(int) IndexOutOfBoundsException NoSuchElementException",
        "int relocate(int) IndexOutOfBoundsException IllegalStateException",
        "int victim(int) IllegalArgumentException NoSuchElementException",
        "int relocationsFor(int, int) IllegalArgumentException NoSuchElementException",
        "int regainable()",
        "int regainableNow()",
        "int amplification(boolean) NoSuchElementException",
        "int wearGap()",
        "int undo() IllegalStateException",
    };

    /** What stands behind a name of the library, or in the language, that the rules leave out. */
    private static final String[] BANNED = {
        "\\bfinally\\b", "\\bsynchronized\\b", "\\bassert\\b", "\\brecord\\b", "\\bcatch\\b", "\\binstanceof\\b", "->", "::",
        "\\bdouble\\b", "\\bfloat\\b", "\\bwhile\\b", "\\bpackage\\b", "\\bprotected\\b", "\\bthis\\b", "@",
        "\\bSystem\\.(?!arraycopy\\()", "\\bArrays\\.(?!fill\\()", "\\bMath\\.(?!(max|min)\\()", "\\bstatic\\s*\\{",
        "[^\\x00-\\x7f]",
    };

    public static void main(String[] args) throws IOException {
        face();
        members();
        insideClasses();
        String text = Files.readString(Path.of("src/main/java/AppendedVolume.java"));
        String code = text.replaceAll("/\\*(?s:.*?)\\*/", "").replaceAll("//[^\n]*", "").replaceAll("\"[^\"\n]*\"", "\"\"");
        for (String banned : BANNED) {
            CHECK.holds(!Pattern.compile(banned).matcher(code).find(), "the code has " + banned);
        }
        CHECK.holds(!Pattern.compile("\\w\\s*\\+\\s*\"|\"\\s*\\+").matcher(code).find(), "texts are joined by +");
        imports(code);
        objectsAreMadeOnce(code);
        methodsAreShort(code);
        CHECK.end();
    }

    private static void face() {
        Class<?> type = AppendedVolume.class;
        CHECK.due(Modifier.PUBLIC | Modifier.FINAL, "modifiers of the class", type::getModifiers);
        Set<String> found = new TreeSet<>();
        for (Method method : type.getDeclaredMethods()) {
            if (Modifier.isPublic(method.getModifiers())) {
                found.add(signature(method));
                CHECK.holds(!Modifier.isStatic(method.getModifiers()), "static method of the face: " + method);
            }
        }
        Set<String> wanted = new TreeSet<>(Arrays.asList(FACE));
        CHECK.holds(found.equals(wanted), "the face has " + found + ", due is " + wanted);
    }

    private static String signature(Method method) {
        List<String> types = new ArrayList<>();
        for (Class<?> type : method.getParameterTypes()) {
            types.add(type.getSimpleName());
        }
        StringBuilder text = new StringBuilder(method.getReturnType().getSimpleName());
        text.append(' ').append(method.getName()).append('(').append(String.join(", ", types)).append(')');
        for (Class<?> type : method.getExceptionTypes()) {
            text.append(' ').append(type.getSimpleName());
        }
        return text.toString();
    }

    private static void members() {
        Class<?> type = AppendedVolume.class;
        for (Field field : type.getDeclaredFields()) {
            int modifiers = field.getModifiers();
            CHECK.holds(Modifier.isPrivate(modifiers) || field.getName().equals("NONE"), "field that is seen: " + field);
            CHECK.holds(!Modifier.isStatic(modifiers) || Modifier.isFinal(modifiers), "static state: " + field);
        }
        for (Method method : type.getDeclaredMethods()) {
            int seen = method.getModifiers() & (Modifier.PUBLIC | Modifier.PRIVATE);
            CHECK.holds(method.isSynthetic() || seen != 0, "method that the package sees: " + method);
        }
        for (Constructor<?> constructor : type.getDeclaredConstructors()) {
            CHECK.holds(constructor.isSynthetic() || constructor.getParameterCount() == 0, "constructor: " + constructor);
        }
    }

    private static void insideClasses() {
        Set<String> faceNames = new HashSet<>();
        for (String line : FACE) {
            faceNames.add(line.substring(line.indexOf(' ') + 1, line.indexOf('(')));
        }
        List<Class<?>> types = new ArrayList<>(List.of(AppendedVolume.class.getDeclaredClasses()));
        CHECK.holds(types.size() + 1 <= 12, "more than twelve classes");
        for (Class<?> type : types) {
            int hidden = type.getModifiers() & (Modifier.PUBLIC | Modifier.PROTECTED);
            CHECK.holds(hidden == 0 && Modifier.isStatic(type.getModifiers()), "class inside: " + type);
        }
        types.add(AppendedVolume.class);
        for (Class<?> type : types) {
            int fields = 0;
            for (Field field : type.getDeclaredFields()) {
                fields += Modifier.isStatic(field.getModifiers()) ? 0 : 1;
            }
            CHECK.holds(fields <= 20, "more than twenty fields: " + type);
            for (Method method : type.getDeclaredMethods()) {
                boolean own = type != AppendedVolume.class || Modifier.isPrivate(method.getModifiers());
                CHECK.holds(!own || !faceNames.contains(method.getName()), "a name of the face: " + method);
                CHECK.holds(method.getParameterCount() <= 7, "more than seven parameters: " + method);
            }
        }
    }

    private static void imports(String code) {
        Matcher matcher = Pattern.compile("import ([\\w.]+);").matcher(code);
        Set<String> allowed = Set.of("java.util.Arrays", "java.util.NoSuchElementException");
        while (matcher.find()) {
            CHECK.holds(allowed.contains(matcher.group(1)), "import of " + matcher.group(1));
        }
        CHECK.holds(!Pattern.compile("(?<!import )java\\.").matcher(code).find(), "a library class by its full name");
    }

    /** All calls of a run live in one room, so that only constructors and fields make objects. */
    private static void objectsAreMadeOnce(String code) {
        for (String line : code.split("\n")) {
            boolean made = line.contains("new ");
            boolean once = line.matches("\\s*(private )?final [\\w\\[\\]]+ \\w+ = new .*") || line.contains("throw new ")
                    || line.contains("saved[slot] = new Volume()");
            CHECK.holds(!made || once, "an object that may be made by a call: " + line.trim());
        }
    }

    private static void methodsAreShort(String code) {
        Matcher matcher = Pattern.compile("(?m)^( {4}| {8})(?! )[^\n=]*\\([^)]*\\)[^\n;=]*\\{\n(?s:.*?)^\\1\\}").matcher(code);
        int found = 0;
        while (matcher.find()) {
            found++;
            long lines = matcher.group().lines().count();
            CHECK.holds(lines <= 60, "a method of " + lines + " lines: " + matcher.group().lines().findFirst().get().trim());
        }
        CHECK.holds(found > 100, "the test finds only " + found + " methods");
    }
}
