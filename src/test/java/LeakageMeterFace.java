import java.lang.reflect.Constructor;
import java.lang.reflect.Field;
import java.lang.reflect.Method;
import java.lang.reflect.Modifier;
import java.util.Set;
import java.util.TreeSet;

/**
 * The class shows what the document's public face has, and nothing else; and it keeps to those rules of LANGUAGE.md that
 * can be seen in the compiled class.
 */
public final class LeakageMeterFace {
    private static final Set<String> FACE = Set.of(
        "int add(int,int,int)", "void clear()", "int open()", "int classes()", "int least(int)", "int alike(int)",
        "int outputs(int)", "int output(int,int)", "int end(int,int)", "int guessed(int,int)");

    /** The types that rule 2 leaves, beside one-dimensional arrays of them. */
    private static final Set<Class<?>> TYPES =
        Set.of(int.class, long.class, short.class, byte.class, char.class, boolean.class);

    private static final Class<?> SEEN = LeakageMeter.class;

    private static final Set<String> wrong = new TreeSet<>();

    private static void due(boolean holds, String fault) {
        if (!holds) {
            wrong.add(fault);
        }
    }

    private static void shownMethods() {
        Set<String> shown = new TreeSet<>();
        Set<String> publicNames = new TreeSet<>();
        for (Method method : SEEN.getDeclaredMethods()) {
            if (!Modifier.isPrivate(method.getModifiers())) {
                shown.add(method.toGenericString().replace("public ", "").replace("LeakageMeter.", ""));
                publicNames.add(method.getName());
            }
        }
        due(shown.equals(FACE), "rule 1: methods shown: " + shown);
        for (Method method : SEEN.getDeclaredMethods()) {
            due(!Modifier.isPrivate(method.getModifiers()) || !publicNames.contains(method.getName()),
                "rule 1: private method with a public name: " + method.getName());
        }
    }

    private static void oneClass() {
        int kind = SEEN.getModifiers();
        due(Modifier.isPublic(kind) && Modifier.isFinal(kind), "rule 1: the class is not public and final");
        due(SEEN.getPackageName().isEmpty(), "the class is in a package");
        due(SEEN.getSuperclass() == Object.class && SEEN.getInterfaces().length == 0, "the class has a parent");
        due(SEEN.getDeclaredClasses().length == 0, "rule 1: there is a nested class");
        Constructor<?>[] all = SEEN.getDeclaredConstructors();
        due(all.length == 1 && Modifier.isPublic(all[0].getModifiers()) && all[0].getParameterCount() == 0,
            "rule 1: there is not one constructor, public and without parameters");
    }

    private static boolean isLeft(Class<?> type) {
        return TYPES.contains(type) || type.isArray() && TYPES.contains(type.getComponentType());
    }

    private static void fields() {
        int beside = 0;
        for (Field field : SEEN.getDeclaredFields()) {
            String name = field.getName();
            int kind = field.getModifiers();
            due(Modifier.isPrivate(kind), "rule 1: field shown: " + name);
            due(isLeft(field.getType()), "rule 2: type of field " + name);
            if (Modifier.isStatic(kind)) {
                boolean number = field.getType() == int.class || field.getType() == long.class;
                due(Modifier.isFinal(kind) && number, "rule 5: static field " + name);
            } else {
                beside++;
            }
        }
        due(beside <= 40, "rule 10: " + beside + " fields");
    }

    private static void methodTypes() {
        for (Method method : SEEN.getDeclaredMethods()) {
            String name = method.getName();
            Class<?> answer = method.getReturnType();
            due(answer == void.class || TYPES.contains(answer), "rules 2 and 4: answer of " + name);
            due(method.getParameterCount() <= 7, "rule 10: parameters of " + name);
            for (Class<?> type : method.getParameterTypes()) {
                due(isLeft(type), "rule 2: a parameter of " + name);
            }
            due(!Modifier.isSynchronized(method.getModifiers()), "rule 6: synchronized " + name);
            due(method.getExceptionTypes().length == 0, "rule 6: throws of " + name);
        }
    }

    public static void main(String[] args) {
        shownMethods();
        oneClass();
        fields();
        methodTypes();
        wrong.forEach(System.out::println);
        System.out.println(wrong.isEmpty() ? "the face is as due" : "the face is not as due");
        if (!wrong.isEmpty()) {
            System.exit(1);
        }
    }
}
