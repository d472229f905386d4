import java.lang.reflect.Constructor;
import java.lang.reflect.Field;
import java.lang.reflect.Method;
import java.lang.reflect.Modifier;
import java.util.Arrays;
import java.util.TreeSet;

/** The class shows the face of the document, and nothing besides. */
public final class FaceTest {
    private static final String[] FACE = {
        "public final class LeastChange",
        "public static final int LeastChange.NONE",
        "public LeastChange()",
        "public int LeastChange.name(int,int)",
        "public int LeastChange.needs(int,int,int,long)",
        "public int LeastChange.want(int,long)",
        "public int LeastChange.force(int,long)",
        "public int LeastChange.group(int,int)",
        "public int LeastChange.solve(int,long)",
        "public int LeastChange.chosen(int)",
        "public int LeastChange.down(int)",
        "public int LeastChange.lock(int,int)",
        "public long LeastChange.digest(int,long)",
        "public int LeastChange.merge(int)",
        "public int LeastChange.row(int) throws java.lang.ArrayIndexOutOfBoundsException",
    };

    public static void main(String[] args) {
        Check check = new Check("FaceTest");
        TreeSet<String> due = new TreeSet<>(Arrays.asList(FACE));
        TreeSet<String> shown = shownFace();
        for (String member : due) {
            check.due("'" + member + "' is there", shown.contains(member) ? 1 : 0, 1);
        }
        for (String member : shown) {
            check.due("'" + member + "' is in the document", due.contains(member) ? 1 : 0, 1);
        }
        check.due("NONE", LeastChange.NONE, -1);
        checkNamesOfPrivateMethods(check);
        checkClassesInside(check);
        check.end();
    }

    private static TreeSet<String> shownFace() {
        TreeSet<String> shown = new TreeSet<>();
        shown.add(LeastChange.class.toGenericString());
        for (Field field : LeastChange.class.getDeclaredFields()) {
            if (!Modifier.isPrivate(field.getModifiers())) {
                shown.add(field.toGenericString());
            }
        }
        for (Constructor<?> constructor : LeastChange.class.getDeclaredConstructors()) {
            if (!Modifier.isPrivate(constructor.getModifiers())) {
                shown.add(constructor.toGenericString());
            }
        }
        for (Method method : LeastChange.class.getDeclaredMethods()) {
            if (!Modifier.isPrivate(method.getModifiers())) {
                shown.add(method.toGenericString());
            }
        }
        return shown;
    }

    private static void checkNamesOfPrivateMethods(Check check) {
        TreeSet<String> taken = new TreeSet<>();
        for (Method method : LeastChange.class.getMethods()) {
            taken.add(method.getName());
        }
        for (Method method : LeastChange.class.getDeclaredMethods()) {
            if (Modifier.isPrivate(method.getModifiers())) {
                check.due("private " + method.getName() + " bears a public name",
                    taken.contains(method.getName()) ? 1 : 0, 0);
            }
        }
    }

    private static void checkClassesInside(Check check) {
        for (Class<?> inside : LeastChange.class.getDeclaredClasses()) {
            int modifiers = inside.getModifiers();
            boolean hidden = !Modifier.isPublic(modifiers) && !Modifier.isProtected(modifiers);
            check.due(inside.getName() + " is hidden", hidden ? 1 : 0, 1);
            check.due(inside.getName() + " is static", Modifier.isStatic(modifiers) ? 1 : 0, 1);
        }
    }
}
