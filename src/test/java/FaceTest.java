import java.lang.reflect.Constructor;
import java.lang.reflect.Field;
import java.lang.reflect.Method;
import java.lang.reflect.Modifier;
import java.util.Arrays;
import java.util.Set;
import java.util.TreeSet;

/** The public face is the document's, and nothing else is to be seen of the class. */
public final class FaceTest {
    private static final String[] METHODS = {
        "int type(long, int)", "int read()", "int place()", "int write()", "int written(int)", "int man(int)",
        "int about(int)", "int state()", "boolean attacked(int, int)", "int moves()", "int move(int, int)",
        "int play(int, int, int)", "int back()", "int ways(int)", "int worth()", "int search(int)", "int chosen(int)",
    };

    private FaceTest() {
    }

    public static void main(String[] args) {
        Check.same("NONE", KingsBoard.NONE, -1);
        Check.same("public and final", KingsBoard.class.getModifiers(), Modifier.PUBLIC | Modifier.FINAL);
        Set<String> names = new TreeSet<>();
        Set<String> face = new TreeSet<>();
        for (Method method : KingsBoard.class.getDeclaredMethods()) {
            if (!Modifier.isPrivate(method.getModifiers())) {
                String types = Arrays.toString(method.getParameterTypes()).replace("[", "(").replace("]", ")");
                face.add(method.getReturnType() + " " + method.getName() + types);
                names.add(method.getName());
                Check.same("modifiers of " + method, method.getModifiers(), Modifier.PUBLIC);
            }
        }
        Check.same("methods", face.toString(), new TreeSet<>(Arrays.asList(METHODS)).toString());
        lookAtFields();
        lookAtConstructors();
        lookForNames(KingsBoard.class, names);
        for (Class<?> inner : KingsBoard.class.getDeclaredClasses()) {
            Check.same("static " + inner, Modifier.isStatic(inner.getModifiers()) ? 1 : 0, 1);
            Check.same("public " + inner, Modifier.isPublic(inner.getModifiers()) ? 1 : 0, 0);
            lookForNames(inner, names);
        }
        Check.end();
    }

    private static void lookAtFields() {
        for (Field field : KingsBoard.class.getDeclaredFields()) {
            boolean isSeen = !Modifier.isPrivate(field.getModifiers());
            Check.same("a field that can be seen, " + field, isSeen ? 1 : 0, field.getName().equals("NONE") ? 1 : 0);
        }
    }

    private static void lookAtConstructors() {
        Constructor<?>[] all = KingsBoard.class.getDeclaredConstructors();
        Check.same("constructors", all.length, 1);
        Check.same("the constructor", all[0].toString(), "public KingsBoard()");
    }

    /** No other method bears the name of a public one. */
    private static void lookForNames(Class<?> one, Set<String> names) {
        for (Method method : one.getDeclaredMethods()) {
            boolean isFace = one == KingsBoard.class && Modifier.isPublic(method.getModifiers());
            Check.same("a name of the face in " + method, !isFace && names.contains(method.getName()) ? 1 : 0, 0);
        }
    }
}
