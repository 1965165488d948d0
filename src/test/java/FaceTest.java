import java.lang.reflect.Array;
import java.lang.reflect.Constructor;
import java.lang.reflect.Field;
import java.lang.reflect.Method;
import java.lang.reflect.Modifier;
import java.util.Arrays;
import java.util.Collections;
import java.util.IdentityHashMap;
import java.util.Set;
import java.util.TreeSet;

/** The public face has what the document names and nothing else, and an object stays small. */
final class FaceTest {
    private static int elements = 0;

    public static void main(String[] args) throws IllegalAccessException {
        face();
        room();
        Check.end();
    }

    private static void face() {
        Set<String> due = new TreeSet<>(Arrays.asList(
                "int feed(int, int)", "int deflate()", "int byteAt(int)", "int block(int, int)",
                "int feedCoded(int)", "int pass(int, int)", "int alter(int, int)", "int inflate()",
                "int out(int)", "int sum(int)", "int told(int)", "void clear()"));
        Set<String> got = new TreeSet<>();
        Set<String> names = new TreeSet<>();
        for (Method m : DeflateEffort.class.getDeclaredMethods()) {
            if (!Modifier.isPrivate(m.getModifiers()) && !m.isSynthetic()) {
                String types = Arrays.toString(m.getParameterTypes()).replace("[", "(").replace("]", ")");
                got.add(m.getReturnType() + " " + m.getName() + types);
                names.add(m.getName());
                Check.holds(m.getName() + " is public", Modifier.isPublic(m.getModifiers()));
            }
        }
        Check.holds("the methods are " + got, got.equals(due));
        for (Method m : DeflateEffort.class.getDeclaredMethods()) {
            Check.holds(m.getName() + " is the name of one method",
                    !Modifier.isPrivate(m.getModifiers()) || !names.contains(m.getName()));
        }
        for (Field f : DeflateEffort.class.getDeclaredFields()) {
            Check.holds(f.getName() + " is private", f.getName().equals("NONE") || Modifier.isPrivate(f.getModifiers()));
        }
        Constructor<?>[] constructors = DeflateEffort.class.getDeclaredConstructors();
        Check.same("constructors", constructors.length, 1);
        Check.same("its parameters", constructors[0].getParameterCount(), 2);
        Check.holds("the class is final", Modifier.isFinal(DeflateEffort.class.getModifiers()));
    }

    /** 512 objects would still fit into the one room of 7.3 million fields and elements. */
    private static void room() throws IllegalAccessException {
        Set<Object> seen = Collections.newSetFromMap(new IdentityHashMap<>());
        DeflateEffort x = new DeflateEffort(9, 2000);
        count(x, seen);
        Check.holds("an object has " + elements + " elements", elements <= 14200);
        Check.holds("an object is " + seen.size() + " objects", seen.size() <= 1000);
        int before = elements;
        Use.feedAll(x, Inputs.row(5, 512, 1));
        x.deflate();
        x.pass(0, 600);
        x.inflate();
        elements = 0;
        seen.clear();
        count(x, seen);
        Check.same("elements after its calls", elements, before);
    }

    private static void count(Object o, Set<Object> seen) throws IllegalAccessException {
        if (o == null || !seen.add(o)) {
            return;
        }
        Class<?> type = o.getClass();
        if (type.isArray()) {
            elements += Array.getLength(o);
            for (int i = 0; i < Array.getLength(o) && !type.getComponentType().isPrimitive(); i++) {
                count(Array.get(o, i), seen);
            }
            return;
        }
        for (Field f : type.getDeclaredFields()) {
            if (!Modifier.isStatic(f.getModifiers())) {
                elements++;
                f.setAccessible(true);
                if (!f.getType().isPrimitive()) {
                    count(f.get(o), seen);
                }
            }
        }
    }
}
