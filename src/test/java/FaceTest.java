import java.lang.reflect.Constructor;
import java.lang.reflect.Field;
import java.lang.reflect.Method;
import java.lang.reflect.Modifier;
import java.util.Arrays;
import java.util.Set;
import java.util.TreeSet;

/** The class shows the document's face, with the exceptions in its order, and nothing else. */
public final class FaceTest {
    private static final String[] FACE = {
        "bit(int):int throws IndexOutOfBoundsException",
        "flip(int):void throws IndexOutOfBoundsException",
        "join(int):boolean throws IndexOutOfBoundsException",
        "node(int,int):int throws IndexOutOfBoundsException",
        "put(long,int):boolean throws",
        "read():int throws",
        "received(int,int):long throws IndexOutOfBoundsException NoSuchElementException",
        "step(int,int):int throws IllegalArgumentException",
        "tape(int):int throws IndexOutOfBoundsException NoSuchElementException",
        "want(int,boolean,int,long,int):int throws IndexOutOfBoundsException IllegalArgumentException"
            + " UnsupportedOperationException",
        "wipe():int throws",
        "wire():int throws",
    };

    public static void main(String[] args) throws Exception {
        Class<?> type = SharedWire.class;
        Due.is("modifiers", Modifier.toString(type.getModifiers()), "public final");
        Due.is("superclass", type.getSuperclass().getName(), "java.lang.Object");
        Due.is("interfaces", type.getInterfaces().length, 0);
        methods(type);
        fields(type);
        Constructor<?>[] made = type.getDeclaredConstructors();
        Due.is("constructors", made.length, 1);
        Due.is("constructor", made[0].toString(), "public SharedWire()");
        for (Class<?> inside : type.getDeclaredClasses()) {
            Due.isTrue(inside + " is static", Modifier.isStatic(inside.getModifiers()));
        }
        Due.end();
    }

    private static void methods(Class<?> type) {
        Set<String> shown = new TreeSet<>();
        Set<String> names = new TreeSet<>();
        for (Method method : type.getDeclaredMethods()) {
            if (Modifier.isPublic(method.getModifiers())) {
                shown.add(told(method));
                names.add(method.getName());
            }
        }
        Due.is("public methods", shown.toString(), new TreeSet<>(Arrays.asList(FACE)).toString());
        for (Method method : type.getDeclaredMethods()) {
            if (!Modifier.isPublic(method.getModifiers()) && !method.isSynthetic()) {
                Due.isTrue(method + " is private", Modifier.isPrivate(method.getModifiers()));
                Due.isTrue(method + " has a name of its own", !names.contains(method.getName()));
            }
        }
    }

    private static void fields(Class<?> type) throws Exception {
        for (Field field : type.getDeclaredFields()) {
            int modifiers = field.getModifiers();
            if (!field.getName().equals("NONE")) {
                Due.isTrue(field + " is private", Modifier.isPrivate(modifiers));
            }
            Due.isTrue(field + " is no changing static", !Modifier.isStatic(modifiers) || Modifier.isFinal(modifiers));
        }
        Field none = type.getDeclaredField("NONE");
        Due.is("NONE", none.toString(), "public static final int SharedWire.NONE");
        Due.is("NONE", SharedWire.NONE, -1);
    }

    private static String told(Method method) {
        StringBuilder text = new StringBuilder(method.getName()).append('(');
        Class<?>[] takes = method.getParameterTypes();
        for (int i = 0; i < takes.length; i++) {
            text.append(i == 0 ? "" : ",").append(takes[i].getSimpleName());
        }
        text.append("):").append(method.getReturnType().getSimpleName()).append(" throws");
        for (Class<?> thrown : method.getExceptionTypes()) {
            text.append(' ').append(thrown.getSimpleName());
        }
        return text.toString();
    }
}
