import java.lang.reflect.Method;
import java.nio.file.Files;
import java.nio.file.Path;
import java.util.Set;
import java.util.TreeSet;
import java.util.regex.Matcher;
import java.util.regex.Pattern;

/** Each line of the README's Java that tells an answer is asked, from the first to the last, and answers so. */
public final class ReadmeTest {
    private static final Pattern CALL = Pattern.compile("bridge\\.(\\w+)\\((.*)\\); +// (-?\\d+)(:.*)?");

    private ReadmeTest() { }

    public static void main(String[] args) throws Exception {
        OddBridge bridge = new OddBridge();
        Set<String> asked = new TreeSet<>();
        for (String line : Files.readString(Path.of("README.md")).split("\n")) {
            Matcher call = CALL.matcher(line);
            if (call.matches()) {
                asked.add(call.group(1));
                Due.is("README.md: " + line, answer(bridge, call.group(1), call.group(2)), Long.parseLong(call.group(3)));
            } else {
                Due.is("README.md tells an answer: " + line, line.startsWith("bridge.") ? 1 : 0, 0);
            }
        }
        for (Method method : OddBridge.class.getMethods()) {
            boolean told = method.getDeclaringClass() != OddBridge.class || method.getName().equals("digest");
            Due.is("README.md shows " + method.getName(), told || asked.contains(method.getName()) ? 1 : 0, 1);
        }
        Due.end("ReadmeTest");
    }

    private static long answer(OddBridge bridge, String name, String numbers) throws Exception {
        String[] told = numbers.isEmpty() ? new String[0] : numbers.split(", ");
        Object[] given = new Object[told.length];
        Class<?>[] types = new Class<?>[told.length];
        for (int i = 0; i < told.length; i++) {
            given[i] = told[i].startsWith("'") ? told[i].charAt(1) : Integer.parseInt(told[i]);
            types[i] = int.class;
        }
        return ((Number) OddBridge.class.getMethod(name, types).invoke(bridge, given)).longValue();
    }
}
