import java.nio.file.Files;
import java.nio.file.Path;
import java.util.regex.Matcher;
import java.util.regex.Pattern;

/** What of ../shared/LANGUAGE.md can be seen in the text of the program without understanding it. */
public final class LanguageTest {
    private static final String[] REFUSED = {
        "throw", "throws", "try", "catch", "finally", "synchronized", "assert", "package", "native", "volatile",
        "transient", "strictfp", "hashCode", "toString", "protected", "System\\.(?!arraycopy)", "Thread", "Random",
        "->", "::", "\\w+Exact", "@\\w+",
    };

    private LanguageTest() { }

    public static void main(String[] args) throws Exception {
        String source = Files.readString(Path.of("src/main/java/OddBridge.java"));
        String code = source.replaceAll("(?s)/\\*.*?\\*/", "").replaceAll("//[^\n]*", "")
            .replaceAll("\"[^\"\n]*\"", "\"\"").replaceAll("'[^'\n]*'", "' '");
        for (String refused : REFUSED) {
            String whole = Character.isLetter(refused.charAt(0)) ? "\\b" + refused + "\\b" : refused;
            Due.is("a place of " + refused, Pattern.compile(refused.startsWith("System") ? refused : whole).matcher(code).find() ? 1 : 0, 0);
        }
        Due.is("signs above 127", source.chars().filter(c -> c > 127).count(), 0);
        Matcher imports = Pattern.compile("import ([^;]*);").matcher(code);
        while (imports.find()) {
            Due.is("import " + imports.group(1), imports.group(1).equals("java.util.Arrays") ? 1 : 0, 1);
        }
        methodsAreShort(source);
        Due.end("LanguageTest");
    }

    /** A method begins at the indent of a member and ends at the brace of the same indent. */
    private static void methodsAreShort(String source) {
        String[] lines = source.split("\n");
        int begun = -1;
        for (int i = 0; i < lines.length; i++) {
            if (lines[i].matches("( {4}| {8})(public|private)[^=;]*\\([^;]*\\{")) {
                begun = i;
            }
            if (begun >= 0 && lines[i].matches("( {4}| {8})}")) {
                Due.is("lines of the method at " + (begun + 1) + " are 60 at most", i - begun < 60 ? 1 : 0, 1);
                begun = -1;
            }
        }
    }
}
