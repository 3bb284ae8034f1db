import java.lang.reflect.Constructor;
import java.lang.reflect.Field;
import java.lang.reflect.Method;
import java.lang.reflect.Modifier;
import java.util.Arrays;
import java.util.Set;
import java.util.TreeSet;

/** The public face is the document's, and no other member of the class can be seen. */
public final class FaceTest {
    private static final String[] FACE = {
        "int feed(long, int)", "int wipe()", "int part(int, long)", "int mark(int)", "int keep(int)", "int give(int)",
        "int owner(int)", "int drop(int)", "boolean cut(int)", "boolean close()", "int open()", "int usable()",
        "int whole(int)", "int marks(int)", "int markOf(int, int)", "long partOf(int, int)", "int partByte(int, int)",
        "int named(int)", "int badAt()", "int poke(int, int, int)", "int byteAt(int, int)", "int out(int, int)",
        "int in()", "int equal(int, int)", "int told(int)"};
    private static final String[] CONSTANTS = {"NONE", "BAD", "CLOSED", "FULL", "LOST"};
    private static int wrong = 0;

    private static void due(String what, Object got, Object want) {
        if (got.equals(want)) return;
        wrong++;
        System.out.println(what + " is " + got + ", due is " + want);
    }

    private static String face(Method method) {
        StringBuilder text = new StringBuilder(method.getReturnType() + " " + method.getName() + "(");
        Class<?>[] types = method.getParameterTypes();
        for (int k = 0; k < types.length; k++) text.append(k == 0 ? "" : ", ").append(types[k]);
        return text.append(")").toString();
    }

    public static void main(String[] args) throws Exception {
        due("the class", Modifier.toString(MarkLog.class.getModifiers()), "public final");
        Set<String> seen = new TreeSet<>();
        Set<String> names = new TreeSet<>();
        for (Method method : MarkLog.class.getDeclaredMethods()) {
            if (Modifier.isPrivate(method.getModifiers())) continue;
            due(method.getName(), Modifier.toString(method.getModifiers()), "public");
            seen.add(face(method));
            names.add(method.getName());
        }
        due("the methods", seen, new TreeSet<>(Arrays.asList(FACE)));
        for (Method method : MarkLog.class.getDeclaredMethods()) {
            if (Modifier.isPrivate(method.getModifiers())) due("private " + method.getName(), names.contains(method.getName()), false);
        }
        Constructor<?>[] made = MarkLog.class.getDeclaredConstructors();
        due("constructors", made.length, 1);
        due("the constructor", made[0].toString(), "public MarkLog(int)");
        int value = -1;
        for (String name : CONSTANTS) due(name, MarkLog.class.getField(name).getInt(null), value--);
        for (Field field : MarkLog.class.getDeclaredFields()) {
            boolean isConstant = Arrays.asList(CONSTANTS).contains(field.getName());
            due(field.getName(), Modifier.isPrivate(field.getModifiers()), !isConstant);
            if (Modifier.isStatic(field.getModifiers())) due(field.getName() + " final", Modifier.isFinal(field.getModifiers()), true);
        }
        System.out.println(wrong == 0 ? "the face is as due" : wrong + " things of the face are not as due");
        if (wrong != 0) System.exit(1);
    }
}
