import java.lang.reflect.Constructor;
import java.lang.reflect.Field;
import java.lang.reflect.Method;
import java.lang.reflect.Modifier;
import java.util.Map;
import java.util.TreeMap;

/** The public face: just the document's members, with its exceptions, and nothing else in sight. */
public final class FaceTest {
    private static final Probe probe = new Probe();
    private static final String ARGUMENT = " IllegalArgumentException";
    private static final String STATE = " IllegalStateException";

    public static void main(String[] args) {
        methods();
        fieldsAndConstructors();
        probe.due("final", Modifier.isFinal(QuestionReader.class.getModifiers()), true);
        probe.end();
    }

    private static void methods() {
        Map<String, String> due = new TreeMap<>();
        due.put("feed", "int/5" + STATE);
        due.put("trim", "int/1" + ARGUMENT);
        due.put("run", "int/0");
        due.put("fault", "int/1" + ARGUMENT);
        due.put("open", "boolean/0");
        due.put("count", "int/1" + ARGUMENT);
        due.put("dimension", "int/2" + ARGUMENT);
        due.put("value", "int/3" + ARGUMENT);
        due.put("rank", "int/3" + ARGUMENT + STATE);
        due.put("find", "int/2" + ARGUMENT + STATE);
        due.put("letter", "int/2" + ARGUMENT);
        due.put("item", "int/2" + ARGUMENT);
        due.put("group", "int/1" + ARGUMENT);
        due.put("set", "int/1" + ARGUMENT);
        due.put("pick", "int/2" + ARGUMENT + STATE);
        due.put("holds", "boolean/0" + STATE);
        for (Method method : QuestionReader.class.getDeclaredMethods()) {
            if (Modifier.isPrivate(method.getModifiers())) {
                probe.due("private " + method.getName(), due.containsKey(method.getName()), false);
                continue;
            }
            StringBuilder got = new StringBuilder(method.getReturnType().getSimpleName());
            got.append('/').append(method.getParameterCount());
            for (Class<?> exception : method.getExceptionTypes()) {
                got.append(' ').append(exception.getSimpleName());
            }
            String want = due.getOrDefault(method.getName(), "no such method");
            probe.due(method + ": " + want, got.toString().equals(want), true);
        }
        int seen = 0;
        for (Method method : QuestionReader.class.getDeclaredMethods()) {
            seen += Modifier.isPublic(method.getModifiers()) ? 1 : 0;
        }
        probe.due("public methods", seen, due.size());
    }

    private static void fieldsAndConstructors() {
        for (Field field : QuestionReader.class.getDeclaredFields()) {
            boolean isPrivate = Modifier.isPrivate(field.getModifiers());
            probe.due("field " + field.getName(), isPrivate || field.getName().equals("NONE"), true);
        }
        Constructor<?>[] constructors = QuestionReader.class.getDeclaredConstructors();
        probe.due("constructors", constructors.length, 1);
        probe.due("parameters of it", constructors[0].getParameterCount(), 0);
    }
}
