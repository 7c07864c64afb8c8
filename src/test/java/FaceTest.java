import java.lang.reflect.Constructor;
import java.lang.reflect.Field;
import java.lang.reflect.Method;
import java.lang.reflect.Modifier;
import java.util.Set;
import java.util.TreeSet;

/** The public face is the document's: nothing less, and nothing more that is not private. */
public final class FaceTest {
    private static final Set<String> FACE = Set.of(
        "BAD_KIND=-1", "BAD_VARIABLE=-2", "FULL=-3", "NOT_SOUND=-4", "BAD_PLACE=-5", "DefiniteUse()",
        "int add(int,int)", "int change(int,int,int)", "int drop()", "boolean sound()",
        "boolean reached(int)", "int surely(int)", "int doubts()", "boolean completes()",
        "boolean idle(int)", "int idles()", "int wanted(int)", "int endOf(int)");

    public static void main(String[] args) throws IllegalAccessException {
        Set<String> found = new TreeSet<>();
        for (Field field : DefiniteUse.class.getDeclaredFields()) {
            if (!Modifier.isPrivate(field.getModifiers())) {
                found.add(field.getName() + "=" + field.getInt(null));
            }
        }
        for (Constructor<?> made : DefiniteUse.class.getDeclaredConstructors()) {
            found.add("DefiniteUse" + parameters(made.getParameterTypes()));
        }
        for (Method method : DefiniteUse.class.getDeclaredMethods()) {
            if (!Modifier.isPrivate(method.getModifiers())) {
                found.add(method.getReturnType() + " " + method.getName()
                    + parameters(method.getParameterTypes()));
            }
        }
        if (!found.equals(FACE)) {
            System.out.println("the face is " + found + ", due is " + new TreeSet<>(FACE));
            System.exit(1);
        }
        System.out.println("the face is as due");
    }

    private static String parameters(Class<?>[] types) {
        StringBuilder text = new StringBuilder("(");
        for (Class<?> type : types) {
            text.append(text.length() > 1 ? "," : "").append(type.getName());
        }
        return text.append(")").toString();
    }
}
