import java.lang.reflect.Constructor;
import java.lang.reflect.Field;
import java.lang.reflect.Method;
import java.lang.reflect.Modifier;
import java.util.Arrays;
import java.util.Set;
import java.util.TreeSet;

/** The public face of the document: its constants, constructor and methods, and no others. */
public final class FaceTest {
    private static final Set<String> METHODS = new TreeSet<>(Arrays.asList(
            "int begin[]",
            "int insert[int, int, int, int]",
            "int update[int, int, int, int]",
            "int remove[int, int]",
            "int commit[int]",
            "boolean abort[int]",
            "boolean where[int, int, int, int]",
            "long ask[int, int, int]",
            "long group[int, int, int, int, int]",
            "int order[int, int, int]",
            "int rank[int, int, int]",
            "long cell[int, int, int]",
            "void pack[]",
            "int state[int]"));
    private static final Set<String> CONSTANTS =
            new TreeSet<>(Arrays.asList("OK", "NONE", "CONFLICT", "FULL"));

    public static void main(String[] args) {
        constants();
        members();
        Check.end();
    }

    private static void constants() {
        Check.due("OK", SegmentStore.OK, 0);
        Check.due("NONE", SegmentStore.NONE, -1);
        Check.due("CONFLICT", SegmentStore.CONFLICT, -2);
        Check.due("FULL", SegmentStore.FULL, -3);
    }

    private static void members() {
        Class<?> face = SegmentStore.class;
        Check.due("public final", Modifier.isPublic(face.getModifiers())
                && Modifier.isFinal(face.getModifiers()), true);
        Check.due("nested classes", face.getDeclaredClasses().length, 0);
        Set<String> methods = new TreeSet<>();
        Set<String> publicNames = new TreeSet<>();
        for (Method m : face.getDeclaredMethods()) {
            if (!Modifier.isPrivate(m.getModifiers())) {
                methods.add(m.getReturnType() + " " + m.getName()
                        + Arrays.toString(m.getParameterTypes()));
                publicNames.add(m.getName());
                Check.due(m + " is public and no static one", Modifier.isPublic(m.getModifiers())
                        && !Modifier.isStatic(m.getModifiers()), true);
            }
        }
        Check.due("methods are " + methods, methods.equals(METHODS), true);
        for (Method m : face.getDeclaredMethods()) {
            if (Modifier.isPrivate(m.getModifiers())) {
                Check.due(m + " has a name of its own", publicNames.contains(m.getName()), false);
            }
        }
        Set<String> constants = new TreeSet<>();
        for (Field f : face.getDeclaredFields()) {
            if (!Modifier.isPrivate(f.getModifiers())) {
                constants.add(f.getName());
                Check.due(f.toString(), f.toString().startsWith("public static final int "), true);
            }
        }
        Check.due("constants are " + constants, constants.equals(CONSTANTS), true);
        Constructor<?>[] constructors = face.getDeclaredConstructors();
        Check.due("constructors", constructors.length, 1);
        Check.due("constructor is public", Modifier.isPublic(constructors[0].getModifiers()), true);
        Check.due("constructor takes", constructors[0].getParameterCount(), 0);
    }
}
