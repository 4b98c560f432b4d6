import java.io.IOException;
import java.lang.reflect.Method;
import java.nio.file.Files;
import java.nio.file.Path;
import java.util.HashSet;
import java.util.Set;
import java.util.regex.Matcher;
import java.util.regex.Pattern;

/** The calls that README.md shows answer what it says, and it leaves none of the class's calls out. */
public final class RootedFerryReadmeTest {
    private static final Pattern CALL = Pattern.compile("ferry\\.(\\w+)\\((.*)\\); +// (\\S+)");
    private static final String MADE = "RootedFerry ferry = new RootedFerry();";

    public static void main(String[] args) throws ReflectiveOperationException, IOException {
        Checks.topic("README.md");
        RootedFerry ferry = null;
        Set<String> shown = new HashSet<>();
        for (String line : example()) {
            Matcher call = CALL.matcher(line);
            if (line.equals(MADE)) {
                ferry = new RootedFerry();
            } else if (call.matches() && ferry != null) {
                shown.add(call.group(1));
                Checks.due(line, answer(ferry, call.group(1), call.group(2)), number(call.group(3)));
            } else if (!line.isEmpty() && !line.startsWith("//")) {
                Checks.fail("neither a call with its answer nor a comment: " + line);
            }
        }
        for (Method method : RootedFerry.class.getMethods()) {
            boolean ofTheFace = method.getDeclaringClass() == RootedFerry.class;
            Checks.due(method.getName() + " is shown", !ofTheFace || shown.contains(method.getName()), true);
        }
        Checks.finish();
    }

    private static String[] example() throws IOException {
        String page = Files.readString(Path.of("README.md"));
        int from = page.indexOf("```java\n");
        int to = page.indexOf("\n```", from + 1);
        if (from < 0 || to < 0) {
            Checks.fail("there is no example");
            return new String[0];
        }
        return page.substring(from + "```java\n".length(), to).split("\n");
    }

    private static long answer(RootedFerry ferry, String name, String arguments) throws ReflectiveOperationException {
        for (Method method : RootedFerry.class.getMethods()) {
            if (method.getName().equals(name)) {
                Class<?>[] types = method.getParameterTypes();
                String[] texts = arguments.isEmpty() ? new String[0] : arguments.split(", ");
                Object[] values = new Object[types.length];
                for (int i = 0; i < types.length && i < texts.length; i++) {
                    values[i] = value(types[i], number(texts[i]));
                }
                return number(String.valueOf(plain(method.invoke(ferry, values))));
            }
        }
        throw new NoSuchMethodException(name);
    }

    private static Object value(Class<?> type, long number) {
        if (type == char.class) {
            return (char) number;
        }
        return type == int.class ? (Object) (int) number : (Object) number;
    }

    /** An answer as number() reads it: a character by its code. */
    private static Object plain(Object answer) {
        return answer instanceof Character ? (Object) (int) (Character) answer : answer;
    }

    /** What a number, a character, a boolean (1 or 0) or NONE stands for. */
    private static long number(String text) {
        if (text.equals("NONE")) {
            return RootedFerry.NONE;
        }
        if (text.equals("true") || text.equals("false")) {
            return text.equals("true") ? 1 : 0;
        }
        if (text.length() == 3 && text.charAt(0) == '\'') {
            return text.charAt(1);
        }
        return Long.decode(text.endsWith("L") ? text.substring(0, text.length() - 1) : text);
    }
}
