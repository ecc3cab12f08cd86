import java.lang.reflect.Constructor;
import java.lang.reflect.Field;
import java.lang.reflect.Method;
import java.lang.reflect.Modifier;
import java.util.Set;
import java.util.TreeSet;

/** The public face: what the document names, with its types, and nothing more that can be seen from outside. */
public final class FaceTest {
    private static final Checks CHECKS = new Checks();

    public static void main(String[] args) throws NoSuchMethodException {
        CHECKS.due("the class is public", Modifier.isPublic(FlatBlocks.class.getModifiers()), true);
        CHECKS.due("the class is final", Modifier.isFinal(FlatBlocks.class.getModifiers()), true);
        constants();
        constructor();
        methods();
        classesInside();
        CHECKS.end();
    }

    private static void constants() {
        CHECKS.due("BAD", FlatBlocks.BAD, -1);
        CHECKS.due("TRUNCATED", FlatBlocks.TRUNCATED, 1);
        CHECKS.due("BAD_KIND", FlatBlocks.BAD_KIND, 2);
        CHECKS.due("BAD_KEPT", FlatBlocks.BAD_KEPT, 3);
        CHECKS.due("BAD_CODES", FlatBlocks.BAD_CODES, 4);
        CHECKS.due("BAD_SYMBOL", FlatBlocks.BAD_SYMBOL, 5);
        CHECKS.due("TOO_FAR", FlatBlocks.TOO_FAR, 6);
        CHECKS.due("FULL", FlatBlocks.FULL, 7);
        Set<String> seen = new TreeSet<>();
        for (Field field : FlatBlocks.class.getDeclaredFields()) {
            boolean open = Modifier.isPublic(field.getModifiers());
            CHECKS.due(field + " is public or private", open || Modifier.isPrivate(field.getModifiers()), true);
            boolean constant = Modifier.isStatic(field.getModifiers()) && Modifier.isFinal(field.getModifiers());
            CHECKS.due(field + " is a constant, if it is public", !open || constant, true);
            if (open) {
                seen.add(field.getName());
            }
        }
        dueNames("constants", seen, "BAD TRUNCATED BAD_KIND BAD_KEPT BAD_CODES BAD_SYMBOL TOO_FAR FULL");
    }

    private static void constructor() throws NoSuchMethodException {
        Constructor<?>[] all = FlatBlocks.class.getDeclaredConstructors();
        CHECKS.due("constructors", all.length, 1);
        Constructor<?> due = FlatBlocks.class.getConstructor(int.class, int.class, int.class);
        CHECKS.due("the constructor throws nothing", due.getExceptionTypes().length, 0);
    }

    private static void methods() throws NoSuchMethodException {
        dueMethod("feed", boolean.class, int.class);
        dueMethod("again", int.class, int.class, int.class);
        dueMethod("pack", int.class);
        dueMethod("packed", int.class, int.class);
        dueMethod("load", boolean.class, int.class);
        dueMethod("take", int.class);
        dueMethod("unpack", int.class);
        dueMethod("out", int.class, int.class);
        dueMethod("bit", int.class);
        dueMethod("same", boolean.class);
        dueMethod("reset", void.class);
        dueMethod("count", int.class, int.class);
        Set<String> seen = new TreeSet<>();
        for (Method method : FlatBlocks.class.getDeclaredMethods()) {
            boolean open = Modifier.isPublic(method.getModifiers());
            CHECKS.due(method + " is public or private", open || Modifier.isPrivate(method.getModifiers()), true);
            if (open) {
                CHECKS.due(method + " stands there once", seen.add(method.getName()), true);
            }
        }
        dueNames("methods", seen, "feed again pack packed load take unpack out bit same reset count");
    }

    private static void dueMethod(String name, Class<?> answer, Class<?>... taken) throws NoSuchMethodException {
        Method method = FlatBlocks.class.getMethod(name, taken);
        CHECKS.due(name + " answers " + answer, method.getReturnType() == answer, true);
        CHECKS.due(name + " is no static one", Modifier.isStatic(method.getModifiers()), false);
    }

    private static void classesInside() {
        for (Class<?> inside : FlatBlocks.class.getDeclaredClasses()) {
            CHECKS.due(inside + " is static", Modifier.isStatic(inside.getModifiers()), true);
            CHECKS.due(inside + " is public", Modifier.isPublic(inside.getModifiers()), false);
        }
    }

    private static void dueNames(String what, Set<String> seen, String names) {
        Set<String> due = new TreeSet<>(Set.of(names.split(" ")));
        System.out.println(what + ": " + seen);
        CHECKS.due(what, seen.equals(due), true);
    }
}
