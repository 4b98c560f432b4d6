import java.lang.reflect.Constructor;
import java.lang.reflect.Field;
import java.lang.reflect.Method;
import java.lang.reflect.Modifier;
import java.util.Set;
import java.util.TreeSet;

/** The class shows the document's face and nothing else. */
public final class RootedFerryFaceTest {
    private static final String[] METHODS = {
        "boolean account(long,long)", "boolean open()", "boolean type(char)", "int word(long)", "int enter()",
        "int reply()", "char text(int)", "boolean join()", "boolean listen(int)", "int take()",
        "boolean give(int)", "int end()", "int transfer()", "int nodes()", "int bytes()",
    };

    public static void main(String[] args) {
        Checks.topic("face");
        Class<?> face = RootedFerry.class;
        Checks.due("public final", face.getModifiers(), Modifier.PUBLIC | Modifier.FINAL);
        Checks.due("NONE", RootedFerry.NONE, -1);
        checkMethods(face);
        checkFields(face);
        checkConstructors(face);
        Checks.finish();
    }

    private static void checkMethods(Class<?> face) {
        Set<String> shown = new TreeSet<>();
        Set<String> shownNames = new TreeSet<>();
        Set<String> hiddenNames = new TreeSet<>();
        for (Method method : face.getDeclaredMethods()) {
            if (Modifier.isPrivate(method.getModifiers()) || method.isSynthetic()) {
                hiddenNames.add(method.getName());
                continue;
            }
            StringBuilder text = new StringBuilder();
            text.append(method.getReturnType()).append(' ').append(method.getName()).append('(');
            for (Class<?> parameter : method.getParameterTypes()) {
                text.append(text.charAt(text.length() - 1) == '(' ? "" : ",").append(parameter);
            }
            shown.add(text.append(')').toString());
            shownNames.add(method.getName());
            Checks.due(text + " is public alone", method.getModifiers(), Modifier.PUBLIC);
            Checks.due("exceptions of " + text, method.getExceptionTypes().length, 0);
        }
        Checks.due("the methods", shown.toString(), new TreeSet<>(Set.of(METHODS)).toString());
        hiddenNames.retainAll(shownNames);
        Checks.due("private methods named as public ones", hiddenNames.toString(), "[]");
    }

    private static void checkFields(Class<?> face) {
        for (Field field : face.getDeclaredFields()) {
            boolean isNone = field.getName().equals("NONE");
            Checks.due("field " + field.getName() + " is private", Modifier.isPrivate(field.getModifiers()), !isNone);
            if (Modifier.isStatic(field.getModifiers())) {
                Checks.due("field " + field.getName() + " is final", Modifier.isFinal(field.getModifiers()), true);
            }
        }
    }

    private static void checkConstructors(Class<?> face) {
        Constructor<?>[] constructors = face.getDeclaredConstructors();
        Checks.due("constructors", constructors.length, 1);
        Checks.due("parameters", constructors[0].getParameterCount(), 0);
        Checks.due("public constructor", constructors[0].getModifiers(), Modifier.PUBLIC);
    }
}
