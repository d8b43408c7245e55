import java.lang.reflect.Field;
import java.lang.reflect.Method;
import java.lang.reflect.Modifier;
import java.util.ArrayList;
import java.util.Arrays;
import java.util.List;
import java.util.Set;
import java.util.TreeSet;

/** The public face of the document: all of it is there, and nothing else can be seen from outside. */
public final class FaceTests {
    private static final String CONSTANTS =
        "NO_SUCH -1, BAD_VALUE -2, BAD_TEXT -3, TOO_MANY -4, NOT_POSSIBLE -5, NONE -6, DEPTH 0, STRAIN 1, SHORT 2";
    private static final String METHODS =
        "set int int, card int, blank int, begin int, weave int, skip, tie int int, cut, of int int, stack int int,"
        + " thread int int, pick int, byEnd int, byCloth int, write int, sign int, count int, picks int int, depth int,"
        + " reaches int, stop int, ahead int, put long, wipe, fault, undo, save int, restore int";

    private FaceTests() {
    }

    public static void main(String[] args) throws IllegalAccessException {
        testClass();
        testConstants();
        testMethods();
        testOwnClasses();
        Checks.end("FaceTests");
    }

    private static void dueTrue(String sentence, boolean holds) {
        Checks.due("The public face: " + sentence, holds ? 1 : 0, 1);
    }

    private static void dueSame(String sentence, Set<String> got, String want) {
        Set<String> due = new TreeSet<>(Arrays.asList(want.split(", *")));
        dueTrue(sentence + " (there are " + got + ")", got.equals(due));
    }

    private static void testClass() {
        Class<?> face = CallingLooms.class;
        dueTrue("public final class", Modifier.isPublic(face.getModifiers()) && Modifier.isFinal(face.getModifiers()));
        dueTrue("no package", face.getPackageName().isEmpty());
        dueTrue("no class above it, no interface", face.getSuperclass() == Object.class && face.getInterfaces().length == 0);
        dueTrue("one constructor alone", face.getDeclaredConstructors().length == 1);
        dueTrue("public CallingLooms()", face.getConstructors().length == 1
            && face.getConstructors()[0].getParameterCount() == 0 && face.getConstructors()[0].getExceptionTypes().length == 0);
    }

    private static void testConstants() throws IllegalAccessException {
        Set<String> constants = new TreeSet<>();
        for (Field field : CallingLooms.class.getDeclaredFields()) {
            int kind = field.getModifiers();
            if (Modifier.isPrivate(kind)) continue;
            boolean constant = Modifier.isPublic(kind) && Modifier.isStatic(kind) && Modifier.isFinal(kind);
            dueTrue("public static final int " + field.getName(), constant && field.getType() == int.class);
            if (constant && field.getType() == int.class) constants.add(field.getName() + " " + field.getInt(null));
        }
        dueSame("the constants", constants, CONSTANTS);
    }

    private static void testMethods() {
        Set<String> methods = new TreeSet<>();
        for (Method method : CallingLooms.class.getDeclaredMethods()) {
            int kind = method.getModifiers();
            if (Modifier.isPrivate(kind)) continue;
            dueTrue("public int " + method.getName(), Modifier.isPublic(kind) && !Modifier.isStatic(kind)
                && method.getReturnType() == int.class && method.getExceptionTypes().length == 0);
            methods.add(told(method));
        }
        dueSame("the methods", methods, METHODS);
    }

    private static String told(Method method) {
        StringBuilder text = new StringBuilder(method.getName());
        for (Class<?> given : method.getParameterTypes()) text.append(' ').append(given.getName());
        return text.toString();
    }

    private static void testOwnClasses() {
        Set<String> open = new TreeSet<>();
        for (Method method : CallingLooms.class.getMethods()) open.add(method.getName());
        List<Class<?>> all = new ArrayList<>(Arrays.asList(CallingLooms.class.getDeclaredClasses()));
        for (Class<?> own : all) {
            int kind = own.getModifiers();
            dueTrue(own.getName() + " is static and cannot be seen from outside",
                Modifier.isStatic(kind) && !Modifier.isPublic(kind) && !Modifier.isProtected(kind));
        }
        all.add(CallingLooms.class);
        for (Class<?> own : all) {
            for (Method method : own.getDeclaredMethods()) {
                boolean hidden = own != CallingLooms.class || Modifier.isPrivate(method.getModifiers());
                dueTrue(own.getName() + "." + method.getName() + " bears no public name",
                    !hidden || !open.contains(method.getName()));
            }
        }
    }
}
