import java.lang.reflect.Constructor;
import java.lang.reflect.Field;
import java.lang.reflect.Method;
import java.lang.reflect.Modifier;
import java.util.Arrays;
import java.util.Set;
import java.util.TreeSet;
import java.util.stream.Collectors;

/** The face has the document's members and no others. */
public final class FaceTest {
    private static final String[] FACE = {
        "int type(int) IllegalArgumentException IllegalStateException",
        "int enter(int,int) IndexOutOfBoundsException IllegalArgumentException",
        "int errorAt()",
        "void put(int,int,double) IndexOutOfBoundsException IllegalArgumentException",
        "void erase(int,int) IndexOutOfBoundsException NoSuchElementException",
        "int copy(int,int,int,int) IndexOutOfBoundsException NoSuchElementException",
        "int insert(int) IndexOutOfBoundsException",
        "int delete(int) IndexOutOfBoundsException",
        "double value(int,int) IndexOutOfBoundsException NoSuchElementException IllegalStateException "
            + "ArithmeticException",
        "int kind(int,int) IndexOutOfBoundsException",
        "int text(int,int,int) IndexOutOfBoundsException UnsupportedOperationException",
        "boolean reaches(int,int,int,int) IndexOutOfBoundsException",
        "int count(int)",
    };

    public static void main(String[] args) {
        methods();
        constructors();
        fields();
        Check.due("the class is", Modifier.toString(FormulaSheet.class.getModifiers()), "public final");
        Check.end();
    }

    private static void methods() {
        Set<String> seen = new TreeSet<>();
        Set<String> publicNames = new TreeSet<>();
        for (Method method : FormulaSheet.class.getDeclaredMethods()) {
            if (!Modifier.isPrivate(method.getModifiers())) {
                seen.add(described(method));
                publicNames.add(method.getName());
                Check.due(method + " is", Modifier.toString(method.getModifiers()), "public");
            }
        }
        Check.due("the methods of the face", seen, new TreeSet<>(Arrays.asList(FACE)));
        for (Method method : FormulaSheet.class.getDeclaredMethods()) {
            if (Modifier.isPrivate(method.getModifiers())) {
                Check.due(method + " has a public one's name", publicNames.contains(method.getName()), false);
            }
        }
    }

    private static String described(Method method) {
        String given = Arrays.stream(method.getParameterTypes()).map(Class::getSimpleName)
            .collect(Collectors.joining(","));
        String thrown = Arrays.stream(method.getExceptionTypes()).map(type -> " " + type.getSimpleName())
            .collect(Collectors.joining());
        return method.getReturnType().getSimpleName() + " " + method.getName() + "(" + given + ")" + thrown;
    }

    private static void constructors() {
        Constructor<?>[] all = FormulaSheet.class.getDeclaredConstructors();
        Check.due("how many constructors", all.length, 1);
        Check.due("the constructor", all[0].toString(), "public FormulaSheet()");
    }

    private static void fields() {
        for (Field field : FormulaSheet.class.getDeclaredFields()) {
            int modifiers = field.getModifiers();
            Check.due(field + " is private", Modifier.isPrivate(modifiers), true);
            Check.due(field + " is final if static", !Modifier.isStatic(modifiers) || Modifier.isFinal(modifiers),
                true);
        }
    }
}
