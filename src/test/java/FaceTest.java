import java.lang.reflect.Constructor;
import java.lang.reflect.Field;
import java.lang.reflect.Method;
import java.lang.reflect.Modifier;
import java.util.Map;
import java.util.Set;
import java.util.TreeMap;
import java.util.TreeSet;
import java.util.stream.Collectors;
import java.util.stream.Stream;

/** 'The public face': the members of the document, as they are declared there, and no others. */
public final class FaceTest {
    private static final String IAE = "IllegalArgumentException";
    private static final String ISE = "IllegalStateException";
    private static final String IOOBE = "IndexOutOfBoundsException";

    /** Of each method, what it answers and takes, and what it declares that it throws. */
    private static Map<String, String> methodsThatAreDue() {
        Map<String, String> due = new TreeMap<>();
        due.put("operation", "int of int, int, int; " + IAE);
        due.put("hole", "int of int; " + IAE);
        due.put("begin", "int of int, int; " + IAE);
        due.put("put", "int of int, int, int; " + ISE + ", " + IAE);
        due.put("unify", "int of int, int; " + IAE + ", " + ISE);
        due.put("read", "int of int; " + IAE + ", " + ISE);
        due.put("item", "int of int; " + IOOBE);
        due.put("isSame", "boolean of int, int; " + IAE + ", " + ISE);
        due.put("size", "int of int; " + IAE);
        due.put("uses", "int of int; " + IAE);
        due.put("empty", "int of ; ");
        due.put("count", "int of int; ");
        return due;
    }

    private static String names(Class<?>[] types) {
        return Stream.of(types).map(Class::getSimpleName).collect(Collectors.joining(", "));
    }

    private static String declared(Method m) {
        return m.getReturnType().getSimpleName() + " of " + names(m.getParameterTypes())
            + "; " + names(m.getExceptionTypes());
    }

    private static boolean isPublicOnly(int modifiers) {
        return (modifiers & ~Modifier.FINAL) == Modifier.PUBLIC;
    }

    private static void theClass() {
        Class<?> c = HoleFiller.class;
        Check.due("the class", "public final", Modifier.toString(c.getModifiers()));
        Check.due("its package", "", c.getPackageName());
        Check.due("what it is built on", "Object", c.getSuperclass().getSimpleName());
        Check.due("its interfaces", "", names(c.getInterfaces()));
    }

    private static void theMethods() {
        Map<String, String> got = new TreeMap<>();
        for (Method m : HoleFiller.class.getDeclaredMethods()) {
            if (Modifier.isPrivate(m.getModifiers()) || m.isSynthetic()) continue;
            if (!isPublicOnly(m.getModifiers())) Check.fail(m + " is not just public");
            if (got.put(m.getName(), declared(m)) != null) Check.fail(m + " is there twice");
        }
        Map<String, String> due = methodsThatAreDue();
        Set<String> names = new TreeSet<>(due.keySet());
        names.addAll(got.keySet());
        for (String name : names) {
            Check.due(name, due.getOrDefault(name, "no such method"), got.getOrDefault(name, "no such method"));
        }
    }

    private static void theConstructor() {
        Constructor<?>[] all = HoleFiller.class.getDeclaredConstructors();
        Check.due("how many constructors", 1, all.length);
        for (Constructor<?> c : all) {
            Check.due("the constructor", "public of ; ", Modifier.toString(c.getModifiers())
                + " of " + names(c.getParameterTypes()) + "; " + names(c.getExceptionTypes()));
        }
    }

    private static void theConstant() {
        Set<String> got = new TreeSet<>();
        for (Field f : HoleFiller.class.getDeclaredFields()) {
            int modifiers = f.getModifiers();
            if (!Modifier.isPrivate(modifiers) && !f.isSynthetic()) {
                got.add(Modifier.toString(modifiers) + " " + f.getType() + " " + f.getName());
            }
        }
        Check.due("the fields", "[public static final int NONE]", got.toString());
        Check.due("NONE", -1, HoleFiller.NONE);
    }

    private static void theClassesInside() {
        for (Class<?> c : HoleFiller.class.getDeclaredClasses()) {
            int modifiers = c.getModifiers();
            if (!Modifier.isStatic(modifiers)) Check.fail(c + " is not static");
            if (Modifier.isPublic(modifiers) || Modifier.isProtected(modifiers)) Check.fail(c + " can be seen");
        }
    }

    private static void privateNames() {
        Set<String> taken = methodsThatAreDue().keySet();
        for (Method m : HoleFiller.class.getDeclaredMethods()) {
            if (Modifier.isPrivate(m.getModifiers()) && taken.contains(m.getName())) {
                Check.fail(m + " bears the name of a public method");
            }
        }
    }

    public static void main(String[] args) {
        Check.part("the public face: public final class HoleFiller");
        theClass();
        Check.part("the public face: the methods of promises 2 to 13");
        theMethods();
        Check.part("the public face: the constructor of promise 1");
        theConstructor();
        Check.part("the public face: public static final int NONE = -1");
        theConstant();
        Check.part("LANGUAGE.md, rule 1: classes inside");
        theClassesInside();
        Check.part("LANGUAGE.md, rule 1: private methods");
        privateNames();
        Check.end();
    }
}
