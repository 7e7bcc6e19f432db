import java.lang.reflect.Field;
import java.lang.reflect.Method;
import java.lang.reflect.Modifier;
import java.util.Arrays;
import java.util.TreeSet;
import java.util.stream.Collectors;

/** The public face: the members that the document tells, and no other that is not private. */
public final class FaceTest {
    private static final String[] FACE = {
        "int walker(int,int,int)", "int put(int,int)", "int write(int)", "int erase()", "int fault()", "int brings(int,int)",
        "int well(int,int)", "int on(int)", "int stepped(int,int)", "int faulty(int)", "int least(int)", "int row(int)",
        "int toll(int,int)", "int doubt(int,int)", "int odd(int)", "int home(int,int,int)", "int say(int,int,int)",
        "int hush()", "long dispute(int)", "int lied(int)", "long part(int)", "int image(int)", "int from(int)",
        "int status(int)", "int count(int)", "long digest()",
    };

    private FaceTest() { }

    public static void main(String[] args) {
        Due.is("the class is public and final", OddBridge.class.getModifiers(), Modifier.PUBLIC | Modifier.FINAL);
        Due.is("one constructor", OddBridge.class.getDeclaredConstructors().length, 1);
        Due.is("which is public", OddBridge.class.getConstructors().length, 1);
        TreeSet<String> face = new TreeSet<>();
        TreeSet<String> names = new TreeSet<>();
        for (Method method : OddBridge.class.getDeclaredMethods()) {
            if (!Modifier.isPrivate(method.getModifiers())) {
                Due.is(method.getName() + " is public alone", method.getModifiers(), Modifier.PUBLIC);
                face.add(method.getReturnType() + " " + method.getName() + Arrays.stream(method.getParameterTypes())
                    .map(Class::getName).collect(Collectors.joining(",", "(", ")")));
                names.add(method.getName());
            }
        }
        for (String due : FACE) {
            Due.is(due + " is there", face.remove(due) ? 1 : 0, 1);
        }
        Due.is("other methods: " + face, face.size(), 0);
        Due.is("public names", names.size(), FACE.length);
        privateNames(names);
        fields();
        Due.end("FaceTest");
    }

    private static void privateNames(TreeSet<String> names) {
        for (Class<?> inside : OddBridge.class.getDeclaredClasses()) {
            Due.is(inside + " is static", Modifier.isStatic(inside.getModifiers()) ? 1 : 0, 1);
            for (Method method : inside.getDeclaredMethods()) {
                Due.is(inside + " " + method.getName() + " has a name of its own", names.contains(method.getName()) ? 1 : 0, 0);
            }
        }
        for (Method method : OddBridge.class.getDeclaredMethods()) {
            boolean bears = Modifier.isPrivate(method.getModifiers()) && names.contains(method.getName());
            Due.is(method.getName() + " has a name of its own", bears ? 1 : 0, 0);
        }
    }

    private static void fields() {
        TreeSet<String> open = new TreeSet<>();
        for (Field field : OddBridge.class.getDeclaredFields()) {
            if (!Modifier.isPrivate(field.getModifiers())) {
                open.add(field.getName());
                int due = Modifier.PUBLIC | Modifier.STATIC | Modifier.FINAL;
                Due.is(field.getName() + " is a public constant", field.getModifiers(), due);
                Due.is(field.getName() + " is an int", field.getType() == int.class ? 1 : 0, 1);
            }
            if (Modifier.isStatic(field.getModifiers())) {
                Due.is(field.getName() + " is final", Modifier.isFinal(field.getModifiers()) ? 1 : 0, 1);
            }
        }
        Due.is("fields that are not private: " + open, open.equals(new TreeSet<>(Arrays.asList("NONE", "BAD", "NO", "FULL"))) ? 1 : 0, 1);
    }
}
