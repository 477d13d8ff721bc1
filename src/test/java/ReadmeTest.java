import java.io.IOException;
import java.lang.reflect.InvocationTargetException;
import java.lang.reflect.Method;
import java.lang.reflect.Modifier;
import java.nio.file.Files;
import java.nio.file.Path;
import java.util.regex.Matcher;
import java.util.regex.Pattern;

/** README.md tells every call of the face, and the calls of its run answer what it says. */
public final class ReadmeTest {
    private static final Pattern CALL = Pattern.compile("(\\w+)\\(([^)]*)\\) +(\\S+).*");

    private ReadmeTest() {
    }

    public static void main(String[] args) throws IOException, IllegalAccessException {
        String text = Files.readString(Path.of("README.md"));
        for (Method method : KingsBoard.class.getDeclaredMethods()) {
            if (Modifier.isPublic(method.getModifiers())) {
                Check.isTrue("README.md tells " + method.getName(), text.contains("| `" + method.getName() + "("));
            }
        }
        String start = "```text\n";
        int from = text.indexOf(start) + start.length();
        String run = text.substring(from, text.indexOf("```", from));
        KingsBoard x = new KingsBoard();
        for (String line : run.split("\n")) {
            Matcher matcher = CALL.matcher(line);
            Check.isTrue("a call in " + line, matcher.matches());
            Check.same(line, answer(x, matcher.group(1), matcher.group(2)), matcher.group(3));
        }
        Check.isTrue("README.md has a run", run.lines().count() > 20);
        Check.end();
    }

    private static String answer(KingsBoard x, String name, String arguments) throws IllegalAccessException {
        for (Method method : KingsBoard.class.getDeclaredMethods()) {
            if (method.getName().equals(name) && Modifier.isPublic(method.getModifiers())) {
                return answer(x, method, arguments.isEmpty() ? new String[0] : arguments.split(", "));
            }
        }
        return "no such call";
    }

    private static String answer(KingsBoard x, Method method, String[] told) throws IllegalAccessException {
        Object[] values = new Object[told.length];
        for (int i = 0; i < told.length; i++) {
            boolean isLong = method.getParameterTypes()[i] == long.class;
            values[i] = isLong ? (Object) Long.decode(told[i]) : (Object) Integer.decode(told[i]);
        }
        try {
            return String.valueOf(method.invoke(x, values));
        } catch (InvocationTargetException e) {
            return e.getCause().getClass().getSimpleName();
        }
    }
}
