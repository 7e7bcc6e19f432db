import java.lang.reflect.Constructor;
import java.lang.reflect.Field;
import java.lang.reflect.Method;
import java.lang.reflect.Modifier;
import java.nio.file.Files;
import java.nio.file.Path;
import java.util.regex.Matcher;
import java.util.regex.Pattern;

/** What of ../shared/LANGUAGE.md can be seen in the text and in the members of the program without understanding it. */
public final class LanguageTest {
    private static final String[] REFUSED = {
        "throw", "throws", "try", "catch", "finally", "synchronized", "assert", "package", "native", "volatile",
        "transient", "strictfp", "hashCode", "toString", "protected", "System\\.(?!arraycopy)", "Thread", "Random",
        "->", "::", "\\w+Exact", "@\\w+",
    };

    private LanguageTest() { }

    public static void main(String[] args) throws Exception {
        String source = Files.readString(Path.of("src/main/java/OddBridge.java"));
        String code = source.replaceAll("(?s)/\\*.*?\\*/", "").replaceAll("//[^\n]*", "")
            .replaceAll("\"[^\"\n]*\"", "\"\"").replaceAll("'[^'\n]*'", "' '");
        for (String refused : REFUSED) {
            String whole = Character.isLetter(refused.charAt(0)) ? "\\b" + refused + "\\b" : refused;
            Due.is("a place of " + refused, Pattern.compile(refused.startsWith("System") ? refused : whole).matcher(code).find() ? 1 : 0, 0);
        }
        Due.is("signs above 127", source.chars().filter(c -> c > 127).count(), 0);
        Matcher imports = Pattern.compile("import ([^;]*);").matcher(code);
        while (imports.find()) {
            Due.is("import " + imports.group(1), imports.group(1).equals("java.util.Arrays") ? 1 : 0, 1);
        }
        methodsAreShort(source);
        nothingIsMadeInCalls(code);
        members(OddBridge.class);
        for (Class<?> inside : OddBridge.class.getDeclaredClasses()) {
            Due.is(inside + " is private or package-visible", inside.getModifiers() & (Modifier.PUBLIC | Modifier.PROTECTED), 0);
            Due.is(inside + " has no classes inside", inside.getDeclaredClasses().length, 0);
            members(inside);
        }
        Due.is("12 classes at most", OddBridge.class.getDeclaredClasses().length < 12 ? 1 : 0, 1);
        Due.end("LanguageTest");
    }

    /** Each new stands behind a field, in its own line or in the constructor. */
    private static void nothingIsMadeInCalls(String code) {
        String made = "( {8}private final \\w+\\[\\] \\w+| {8}\\w+) = new \\w+[\\[(].*;";
        for (String line : code.split("\n")) {
            if (line.matches(".*\\bnew\\b.*")) {
                Due.is("made with a field:" + line, line.matches(made) ? 1 : 0, 1);
            }
        }
    }

    private static void members(Class<?> c) {
        int fields = 0;
        for (Field field : c.getDeclaredFields()) {
            int is = field.getModifiers();
            fields += Modifier.isStatic(is) ? 0 : 1;
            Due.is(field + ": a static one is final", Modifier.isStatic(is) && !Modifier.isFinal(is) ? 1 : 0, 0);
            Due.is(field + ": private, if not of the face", !Modifier.isPrivate(is) && c != OddBridge.class ? 1 : 0, 0);
            Due.is(field + ": of a type that may stand", mayStand(field.getType()) ? 1 : 0, 1);
        }
        Due.is(c + " has 20 fields at most", fields <= 20 ? 1 : 0, 1);
        for (Method method : c.getDeclaredMethods()) {
            boolean open = !Modifier.isPrivate(method.getModifiers());
            Due.is(method + ": private, if not of the face", open && c != OddBridge.class ? 1 : 0, 0);
            Due.is(method + " has seven parameters at most", method.getParameterCount() <= 7 ? 1 : 0, 1);
        }
        for (Constructor<?> constructor : c.getDeclaredConstructors()) {
            boolean open = !Modifier.isPrivate(constructor.getModifiers());
            Due.is(constructor + ": private, if not of the face", open && c != OddBridge.class ? 1 : 0, 0);
        }
    }

    /** Numbers, truths, texts, rows of numbers, and classes of the program's own. */
    private static boolean mayStand(Class<?> type) {
        Class<?> part = type.isArray() ? type.getComponentType() : type;
        return part.isPrimitive() || type == String.class || type.getDeclaringClass() == OddBridge.class;
    }

    /** A method begins at the indent of a member and ends at the brace of the same indent. */
    private static void methodsAreShort(String source) {
        String[] lines = source.split("\n");
        int begun = -1;
        for (int i = 0; i < lines.length; i++) {
            if (lines[i].matches("( {4}| {8})(public|private)[^=;]*\\([^;]*\\{")) {
                begun = i;
            }
            if (begun >= 0 && lines[i].matches("( {4}| {8})}")) {
                Due.is("lines of the method at " + (begun + 1) + " are 60 at most", i - begun < 60 ? 1 : 0, 1);
                begun = -1;
            }
        }
    }
}
