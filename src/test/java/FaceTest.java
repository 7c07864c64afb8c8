import java.lang.reflect.Constructor;
import java.lang.reflect.Field;
import java.lang.reflect.Method;
import java.lang.reflect.Modifier;
import java.util.Set;
import java.util.TreeSet;

/** The public face is the document's: nothing less, and nothing more that is not private. */
public final class FaceTest {
    private static final Set<String> FACE = Set.of(
        "public final class DefiniteUse",
        "public static final int BAD_KIND = -1",
        "public static final int BAD_VARIABLE = -2",
        "public static final int FULL = -3",
        "public static final int NOT_SOUND = -4",
        "public static final int BAD_PLACE = -5",
        "public DefiniteUse()",
        "public int add(int,int)",
        "public int change(int,int,int)",
        "public int drop()",
        "public boolean sound()",
        "public boolean reached(int)",
        "public int surely(int)",
        "public int doubts()",
        "public boolean completes()",
        "public boolean idle(int)",
        "public int idles()",
        "public int wanted(int)",
        "public int endOf(int)");

    public static void main(String[] args) throws IllegalAccessException {
        Set<String> found = new TreeSet<>();
        found.add(words(DefiniteUse.class.getModifiers()) + "class " + DefiniteUse.class.getName());
        for (Class<?> nested : DefiniteUse.class.getDeclaredClasses()) {
            found.add(words(nested.getModifiers()) + "class " + nested.getName());
        }
        for (Field field : DefiniteUse.class.getDeclaredFields()) {
            if (!Modifier.isPrivate(field.getModifiers())) {
                found.add(words(field.getModifiers()) + field.getType() + " " + field.getName() + value(field));
            }
        }
        for (Constructor<?> made : DefiniteUse.class.getDeclaredConstructors()) {
            found.add(made.toGenericString());
        }
        for (Method method : DefiniteUse.class.getDeclaredMethods()) {
            if (!Modifier.isPrivate(method.getModifiers())) {
                found.add(method.toGenericString().replace("DefiniteUse.", ""));
            }
        }
        if (!found.equals(FACE)) {
            printRest("missing: ", FACE, found);
            printRest("too much: ", found, FACE);
            System.exit(1);
        }
        System.out.println("the face is as due");
    }

    private static String words(int modifiers) {
        String text = Modifier.toString(modifiers);
        return text.isEmpty() ? "" : text + " ";
    }

    private static String value(Field field) throws IllegalAccessException {
        return Modifier.isStatic(field.getModifiers()) ? " = " + field.get(null) : "";
    }

    private static void printRest(String what, Set<String> here, Set<String> there) {
        Set<String> rest = new TreeSet<>(here);
        rest.removeAll(there);
        for (String member : rest) {
            System.out.println(what + member);
        }
    }
}
