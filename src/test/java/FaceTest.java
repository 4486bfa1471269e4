import java.lang.reflect.Constructor;
import java.lang.reflect.Field;
import java.lang.reflect.Method;
import java.lang.reflect.Modifier;
import java.util.Arrays;
import java.util.Set;
import java.util.TreeSet;

/** The public face of the document, and nothing else that can be seen (LANGUAGE.md, rules 1 and 5). */
public final class FaceTest {
    public static void main(String[] args) {
        Class<?> face = WayTables.class;
        Check.same("modifiers", face.getModifiers(), Modifier.PUBLIC | Modifier.FINAL);
        Check.yes("it extends nothing", face.getSuperclass() == Object.class);
        Check.same("interfaces", face.getInterfaces().length, 0);
        Check.yes("it has no package", face.getPackageName().isEmpty());
        Check.same("NONE", WayTables.NONE, -1);
        methods(face);
        privateNamesAreOthers(face);
        fields(face);
        Constructor<?>[] made = face.getDeclaredConstructors();
        Check.same("constructors", made.length, 1);
        Check.same("the constructor's modifiers", made[0].getModifiers(), Modifier.PUBLIC);
        Check.same("its parameters", made[0].getParameterCount(), 0);
        Check.same("its exceptions", made[0].getExceptionTypes().length, 0);
        for (Class<?> inner : face.getDeclaredClasses()) {
            Check.yes(inner.getName() + " is static", Modifier.isStatic(inner.getModifiers()));
            Check.no(inner.getName() + " is public", Modifier.isPublic(inner.getModifiers()));
        }
        Check.end();
    }

    private static void methods(Class<?> face) {
        Set<String> due = new TreeSet<>(Arrays.asList(
            "void clear()",
            "int key(int, int) throws IllegalArgumentException, IllegalStateException",
            "void make(int, int, int) throws IllegalArgumentException, IllegalStateException",
            "void set(int, long, long) throws IndexOutOfBoundsException",
            "boolean insert(int, int, long) throws IllegalStateException",
            "boolean change(int, long) throws IllegalStateException",
            "boolean remove() throws IllegalStateException",
            "int match() throws IllegalStateException",
            "long datum()",
            "int bucket()",
            "int count(int)"));
        Set<String> got = new TreeSet<>();
        for (Method m : face.getDeclaredMethods()) {
            if (!Modifier.isPrivate(m.getModifiers()) && !m.isSynthetic()) {
                got.add(told(m));
                Check.same("modifiers of " + m.getName(), m.getModifiers(), Modifier.PUBLIC);
            }
        }
        if (!got.equals(due)) {
            Check.tell("the methods are " + got + ", due are " + due);
        }
    }

    private static String told(Method m) {
        StringBuilder text = new StringBuilder(m.getReturnType() + " " + m.getName() + "(");
        for (int i = 0; i < m.getParameterCount(); i++) {
            text.append(i == 0 ? "" : ", ").append(m.getParameterTypes()[i]);
        }
        text.append(")");
        for (int i = 0; i < m.getExceptionTypes().length; i++) {
            text.append(i == 0 ? " throws " : ", ").append(m.getExceptionTypes()[i].getSimpleName());
        }
        return text.toString();
    }

    private static void privateNamesAreOthers(Class<?> face) {
        Set<String> open = new TreeSet<>();
        for (Method m : face.getMethods()) {
            open.add(m.getName());
        }
        for (Method m : face.getDeclaredMethods()) {
            if (Modifier.isPrivate(m.getModifiers())) {
                Check.no(m.getName() + " bears the name of a public method", open.contains(m.getName()));
            }
        }
    }

    private static void fields(Class<?> face) {
        for (Field f : face.getDeclaredFields()) {
            boolean constant = f.getName().equals("NONE");
            if (constant) {
                Check.same("modifiers of NONE", f.getModifiers(), Modifier.PUBLIC | Modifier.STATIC | Modifier.FINAL);
                Check.yes("NONE is an int", f.getType() == int.class);
            }
            Check.yes(f.getName() + " is private or NONE", constant || Modifier.isPrivate(f.getModifiers()));
            if (Modifier.isStatic(f.getModifiers())) {
                Check.yes(f.getName() + " is final", Modifier.isFinal(f.getModifiers()));
            }
        }
    }
}
