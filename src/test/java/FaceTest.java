import java.lang.reflect.Constructor;
import java.lang.reflect.Field;
import java.lang.reflect.Method;
import java.lang.reflect.Modifier;
import java.util.ArrayList;
import java.util.List;
import java.util.Set;
import java.util.TreeSet;

/** The face of the class, as the document writes it, and that there is no other one. */
public final class FaceTest {
    private static final String INDEX = "IndexOutOfBoundsException";
    private static final String ARGUMENT = "IllegalArgumentException";
    private static final String STATE = "IllegalStateException";

    public static void main(String[] args) {
        methods();
        constants();
        noOtherMembers();
        classesInside();
        Due.end();
    }

    private static String line(String result, String name, int numbers, String... thrown) {
        return "public " + result + " " + name + " " + numbers + " " + new TreeSet<>(Set.of(thrown));
    }

    private static String line(Method method) {
        Set<String> thrown = new TreeSet<>();
        for (Class<?> one : method.getExceptionTypes()) thrown.add(one.getSimpleName());
        int numbers = 0;
        for (Class<?> one : method.getParameterTypes()) numbers += one == int.class ? 1 : 1000;
        return Modifier.toString(method.getModifiers()) + " " + method.getReturnType() + " " + method.getName() + " "
            + numbers + " " + thrown;
    }

    private static void methods() {
        Set<String> due = new TreeSet<>(List.of(
            line("int", "item", 4, INDEX, ARGUMENT, STATE), line("int", "dropItems", 0),
            line("int", "description", 0, STATE), line("int", "sure", 1, INDEX),
            line("int", "constrain", 6, INDEX, ARGUMENT, STATE), line("int", "set", 3, INDEX),
            line("int", "get", 2, INDEX), line("int", "message", 1, INDEX),
            line("boolean", "sample", 2, INDEX, ARGUMENT), line("int", "type", 2, INDEX, ARGUMENT, STATE),
            line("int", "print", 2, INDEX, STATE), line("boolean", "close", 1, INDEX),
            line("char", "unit", 2, INDEX), line("int", "readings", 3, INDEX),
            line("int", "readingsAnew", 3, INDEX), line("int", "read", 4, INDEX),
            line("int", "stream", 2, INDEX), line("int", "step", 1, INDEX, STATE),
            line("int", "progress", 1, INDEX), line("int", "skipped", 2, INDEX),
            line("int", "cell", 4, INDEX), line("int", "take", 2, INDEX),
            line("int", "column", 4, INDEX, ARGUMENT, STATE), line("int", "derived", 2, INDEX),
            line("int", "derivedByBatch", 2, INDEX), line("int", "change", 4, INDEX, ARGUMENT),
            line("int", "upgrade", 0, STATE), line("int", "compose", 2, INDEX, STATE),
            line("int", "reverse", 1, INDEX, STATE), line("int", "upgraded", 2, INDEX),
            line("int", "parts", 1, INDEX), line("int", "compare", 1, INDEX),
            line("int", "find", 4, INDEX), line("int", "findAnew", 4, INDEX)));
        Set<String> got = new TreeSet<>();
        for (Method method : NotationPress.class.getDeclaredMethods()) {
            if (!Modifier.isPrivate(method.getModifiers())) got.add(line(method));
        }
        Due.text("the methods", String.join("\n", got), String.join("\n", due));
        Due.answer("how many", got.size(), 34);
        Constructor<?>[] constructors = NotationPress.class.getDeclaredConstructors();
        Due.answer("constructors", constructors.length, 1);
        Due.text("the constructor", constructors[0].toString(), "public NotationPress()");
        Due.text("the class", Modifier.toString(NotationPress.class.getModifiers()), "public final");
    }

    private static void constants() {
        Due.answer("NOTHING", NotationPress.NOTHING, Integer.MIN_VALUE);
        Due.answer("READ", NotationPress.READ, 1);
        Due.answer("SKIPPED", NotationPress.SKIPPED, 0);
        Due.answer("WAITS", NotationPress.WAITS, -1);
        Due.answer("ENDED", NotationPress.ENDED, -2);
    }

    private static void noOtherMembers() {
        Set<String> got = new TreeSet<>();
        for (Field field : NotationPress.class.getDeclaredFields()) {
            boolean isPrivate = Modifier.isPrivate(field.getModifiers());
            if (!isPrivate) got.add(field.toString());
            boolean isStatic = Modifier.isStatic(field.getModifiers());
            if (isStatic) Due.answer(field + " is final", Modifier.isFinal(field.getModifiers()) ? 1 : 0, 1);
        }
        List<String> due = new ArrayList<>();
        for (String name : List.of("ENDED", "NOTHING", "READ", "SKIPPED", "WAITS")) {
            due.add("public static final int NotationPress." + name);
        }
        Due.text("the fields", String.join("\n", got), String.join("\n", due));
        Set<String> open = new TreeSet<>();
        for (Method method : NotationPress.class.getDeclaredMethods()) {
            if (!Modifier.isPrivate(method.getModifiers())) open.add(method.getName());
        }
        for (Method method : NotationPress.class.getDeclaredMethods()) {
            if (!Modifier.isPrivate(method.getModifiers())) continue;
            Due.answer("private " + method.getName() + " has its own name", open.contains(method.getName()) ? 1 : 0, 0);
        }
    }

    private static void classesInside() {
        Class<?>[] inside = NotationPress.class.getDeclaredClasses();
        Due.answer("some twelve classes", inside.length <= 12 ? 1 : 0, 1);
        for (Class<?> one : inside) {
            int modifiers = one.getModifiers();
            Due.answer(one + " is static", Modifier.isStatic(modifiers) ? 1 : 0, 1);
            Due.answer(one + " is hidden", Modifier.isPublic(modifiers) || Modifier.isProtected(modifiers) ? 1 : 0, 0);
            int fields = 0;
            for (Field field : one.getDeclaredFields()) {
                if (!Modifier.isStatic(field.getModifiers())) fields++;
            }
            Due.answer(one + " has some twenty fields", fields <= 20 ? 1 : 0, 1);
        }
    }
}
