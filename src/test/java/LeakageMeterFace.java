import java.lang.reflect.Field;
import java.lang.reflect.Method;
import java.lang.reflect.Modifier;
import java.util.Set;
import java.util.TreeSet;

/** The class shows what the document's public face has, and nothing else. */
public final class LeakageMeterFace {
    private static final Set<String> FACE = Set.of(
        "int add(int,int,int)", "void clear()", "int open()", "int classes()", "int least(int)", "int alike(int)",
        "int outputs(int)", "int output(int,int)", "int end(int,int)", "int guessed(int,int)");

    public static void main(String[] args) {
        Set<String> wrong = new TreeSet<>();
        Set<String> shown = new TreeSet<>();
        Set<String> publicNames = new TreeSet<>();
        for (Method method : LeakageMeter.class.getDeclaredMethods()) {
            if (!Modifier.isPrivate(method.getModifiers())) {
                shown.add(method.toGenericString().replace("public ", "").replace("LeakageMeter.", ""));
                publicNames.add(method.getName());
            }
        }
        if (!shown.equals(FACE)) {
            wrong.add("methods shown: " + shown);
        }
        for (Method method : LeakageMeter.class.getDeclaredMethods()) {
            if (Modifier.isPrivate(method.getModifiers()) && publicNames.contains(method.getName())) {
                wrong.add("private method with a public name: " + method.getName());
            }
        }
        for (Field field : LeakageMeter.class.getDeclaredFields()) {
            if (!Modifier.isPrivate(field.getModifiers())) {
                wrong.add("field shown: " + field.getName());
            }
        }
        int kind = LeakageMeter.class.getModifiers();
        if (!Modifier.isPublic(kind) || !Modifier.isFinal(kind)) {
            wrong.add("the class is not public and final");
        }
        if (LeakageMeter.class.getDeclaredConstructors().length != 1
            || LeakageMeter.class.getConstructors().length != 1) {
            wrong.add("there is not one constructor, public");
        }
        wrong.forEach(System.out::println);
        System.out.println(wrong.isEmpty() ? "the face is as due" : "the face is not as due");
        if (!wrong.isEmpty()) {
            System.exit(1);
        }
    }
}
