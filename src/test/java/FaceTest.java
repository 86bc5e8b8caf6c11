import java.lang.reflect.Constructor;
import java.lang.reflect.Field;
import java.lang.reflect.Method;
import java.lang.reflect.Modifier;
import java.util.Arrays;
import java.util.TreeSet;

/** The public face of the document, and nothing beside it (LANGUAGE.md, rule 1). */
public final class FaceTest {
    private static final String PLACE = " IndexOutOfBoundsException";
    private static final String WRONG = " IllegalArgumentException";
    private static final String FULL = " UnsupportedOperationException";
    private static final String NOT_NOW = " IllegalStateException";

    private static final String[] METHODS = {
        "int put(int,int)" + FULL, "int insert(int,int,int)" + PLACE + FULL, "int remove(int)" + PLACE,
        "int at(int,boolean)" + PLACE, "long figure(int)" + WRONG, "int rule(int,long,long,int)" + WRONG + FULL,
        "int forget(int)" + PLACE, "int plan()", "boolean isFit(int)" + WRONG, "int order(int)" + WRONG + NOT_NOW,
        "int putBack()" + NOT_NOW, "int steps()", "int step(int,int)" + PLACE, "int origin(int)" + PLACE,
        "int below(int)", "long compared()", "int times(int)" + WRONG, "int astray()",
    };

    public static void main(String[] args) {
        Check.due("modifiers", Modifier.toString(SortDesk.class.getModifiers()), "public final");
        methods();
        fields();
        constructors();
        Check.end();
    }

    private static void methods() {
        TreeSet<String> found = new TreeSet<>();
        for (Method method : SortDesk.class.getDeclaredMethods()) {
            if (!Modifier.isPrivate(method.getModifiers()) && !method.isSynthetic()) {
                Check.due(method.getName() + "'s modifiers", Modifier.toString(method.getModifiers()), "public");
                found.add(describe(method));
            }
        }
        Check.due("methods", found.toString(), new TreeSet<>(Arrays.asList(METHODS)).toString());
    }

    private static String describe(Method method) {
        StringBuilder text = new StringBuilder(method.getReturnType() + " " + method.getName() + "(");
        for (Class<?> type : method.getParameterTypes()) {
            text.append(text.charAt(text.length() - 1) == '(' ? "" : ",").append(type);
        }
        text.append(')');
        for (Class<?> type : method.getExceptionTypes()) {
            text.append(' ').append(type.getSimpleName());
        }
        return text.toString();
    }

    private static void fields() {
        TreeSet<String> found = new TreeSet<>();
        for (Field field : SortDesk.class.getDeclaredFields()) {
            if (!Modifier.isPrivate(field.getModifiers())) {
                found.add(Modifier.toString(field.getModifiers()) + " " + field.getType() + " " + field.getName());
            }
        }
        Check.due("fields", found.toString(), "[public static final int NONE]");
    }

    private static void constructors() {
        Constructor<?>[] found = SortDesk.class.getDeclaredConstructors();
        Check.due("constructors", Arrays.toString(found), "[public SortDesk()]");
    }
}
