import java.lang.reflect.Constructor;
import java.lang.reflect.Field;
import java.lang.reflect.Method;
import java.lang.reflect.Modifier;
import java.util.Arrays;
import java.util.Set;
import java.util.TreeSet;

/** The class shows the document's face and nothing beside it. */
public final class FaceTest {
    private static int wrong = 0;

    private static void due(String what, Object got, Object want) {
        if (!got.equals(want)) {
            wrong++;
            System.out.println(what + ": found " + got + ", due is " + want);
        }
    }

    private static String withParameters(String start, Class<?>[] parameters) {
        StringBuilder text = new StringBuilder(start).append('(');
        for (int i = 0; i < parameters.length; i++) {
            text.append(i == 0 ? "" : ",").append(parameters[i].getName());
        }
        return text.append(')').toString();
    }

    private static Set<String> shownMethods() {
        Set<String> shown = new TreeSet<>();
        for (Method method : SplitDirectory.class.getDeclaredMethods()) {
            int modifiers = method.getModifiers();
            if (!Modifier.isPrivate(modifiers)) {
                String start = Modifier.toString(modifiers) + " " + method.getReturnType().getName() + " " + method.getName();
                shown.add(withParameters(start, method.getParameterTypes()));
            }
        }
        return shown;
    }

    private static Set<String> shownConstructors() {
        Set<String> shown = new TreeSet<>();
        for (Constructor<?> constructor : SplitDirectory.class.getDeclaredConstructors()) {
            int modifiers = constructor.getModifiers();
            if (!Modifier.isPrivate(modifiers)) {
                shown.add(withParameters(Modifier.toString(modifiers), constructor.getParameterTypes()));
            }
        }
        return shown;
    }

    private static Set<String> shownFields() {
        Set<String> shown = new TreeSet<>();
        for (Field field : SplitDirectory.class.getDeclaredFields()) {
            int modifiers = field.getModifiers();
            if (!Modifier.isPrivate(modifiers)) {
                shown.add(Modifier.toString(modifiers) + " " + field.getType().getName() + " " + field.getName());
            }
        }
        return shown;
    }

    public static void main(String[] args) {
        due("class", Modifier.toString(SplitDirectory.class.getModifiers()), "public final");
        due("nested classes", SplitDirectory.class.getDeclaredClasses().length, 0);
        due("constructors", shownConstructors(), new TreeSet<>(Arrays.asList("public()")));
        due("constants", shownFields(), new TreeSet<>(Arrays.asList(
            "public static final int BAD",
            "public static final int FULL")));
        due("BAD", SplitDirectory.BAD, -1);
        due("FULL", SplitDirectory.FULL, -2);
        due("methods", shownMethods(), new TreeSet<>(Arrays.asList(
            "public int put(int,int)",
            "public int remove(int)",
            "public boolean has(int)",
            "public int get(int)",
            "public int size()",
            "public int buckets()",
            "public int deepest()",
            "public int depthOf(int)",
            "public int load(int)",
            "public int inBucket(int,int)",
            "public boolean together(int,int)",
            "public int ofDepth(int)",
            "public int next(int)",
            "public int growth(int)")));
        System.out.println(wrong == 0 ? "the face is as due" : wrong + " parts of the face are not as due");
        if (wrong != 0) {
            System.exit(1);
        }
    }
}
