import java.lang.reflect.Field;
import java.lang.reflect.Method;
import java.lang.reflect.Modifier;
import java.util.Set;
import java.util.TreeSet;

/** The public face: the document's members, and none beside them. */
public final class FaceTest {
    public static void main(String[] args) {
        constants();
        kindOfClass();
        members();
        Check.end();
    }

    private static void constants() {
        Check.due("-1", nameOf(-1), "BAD_PLACE");
        Check.due("-2", nameOf(-2), "BAD_ENTRY");
        Check.due("-3", nameOf(-3), "BAD_NUMBER");
    }

    /** A switch, as its labels must be constants when this is compiled. */
    private static String nameOf(int answer) {
        return switch (answer) {
            case MatrixTraits.BAD_PLACE -> "BAD_PLACE";
            case MatrixTraits.BAD_ENTRY -> "BAD_ENTRY";
            case MatrixTraits.BAD_NUMBER -> "BAD_NUMBER";
            default -> "none";
        };
    }

    private static void kindOfClass() {
        Check.due("class", MatrixTraits.class.toString(), "class MatrixTraits");
        Check.due("modifiers", MatrixTraits.class.getModifiers(), Modifier.PUBLIC | Modifier.FINAL);
        // What a class above it or beside it brought along could be seen from outside too.
        Check.due("superclass", MatrixTraits.class.getSuperclass(), Object.class);
        Check.due("interfaces", MatrixTraits.class.getInterfaces().length, 0);
        Check.due("nested classes", MatrixTraits.class.getDeclaredClasses().length, 0);
    }

    private static void members() {
        Check.due("constructors", MatrixTraits.class.getDeclaredConstructors().length, 1);
        Check.due("constructor", MatrixTraits.class.getDeclaredConstructors()[0].toString(),
                "public MatrixTraits()");
        Check.due("fields", fields(), Set.of(
                "public static final int MatrixTraits.BAD_PLACE",
                "public static final int MatrixTraits.BAD_ENTRY",
                "public static final int MatrixTraits.BAD_NUMBER"));
        Check.due("methods", methods(), Set.of(
                "public int MatrixTraits.set(int,int,int)",
                "public void MatrixTraits.flip()",
                "public int MatrixTraits.relabel(int,int)",
                "public void MatrixTraits.negate()",
                "public int MatrixTraits.entry(int,int)",
                "public int MatrixTraits.coefficient(int)",
                "public int MatrixTraits.valueAt(int)",
                "public int MatrixTraits.determinant()",
                "public int MatrixTraits.cofactor(int,int)",
                "public int MatrixTraits.powerTrace(int)",
                "public int MatrixTraits.powerEntry(int,int,int)",
                "public int MatrixTraits.roots()",
                "public int MatrixTraits.rankAt(int)",
                "public boolean MatrixTraits.vanishes()"));
    }

    private static Set<String> fields() {
        Set<String> names = new TreeSet<>();
        for (Field field : MatrixTraits.class.getDeclaredFields()) {
            if (!Modifier.isPrivate(field.getModifiers())) {
                names.add(field.toString());
            }
        }
        return names;
    }

    private static Set<String> methods() {
        Set<String> names = new TreeSet<>();
        for (Method method : MatrixTraits.class.getDeclaredMethods()) {
            if (!Modifier.isPrivate(method.getModifiers())) {
                names.add(method.toString());
            }
        }
        return names;
    }
}
