import java.lang.reflect.Constructor;
import java.lang.reflect.Field;
import java.lang.reflect.Method;
import java.lang.reflect.Modifier;
import java.util.Arrays;
import java.util.HashSet;
import java.util.Set;
import java.util.TreeSet;

/** The public face: just the constants, the constructor and the methods of the document. */
public final class FaceTest {
    private static final String[] METHODS = {
        "int type(int, int)", "int wipe(int)", "int undo(int)", "int fault(int)",
        "int swell(int, int)", "int find(int, int)", "int depth(int)", "int slip(int, int)",
        "int wake(int)", "int ticket(int, int)", "int back(int)", "int read(int)",
        "int high(int)", "int wave(int, int)", "int when(int)", "int called(int, int)",
        "int brings(int)", "int claims(int)", "int good(int)", "int agree(int, int, int, int)",
        "int run(int, int)", "int bar(int)", "int earn(int, int)", "int heard(int, int)",
        "int forget()", "int skipped(int)", "int voids(int)", "int often(int, int)",
        "long hoarse(int, int, int)", "int storm(int, int, int)", "int sheet(int, int, int)",
        "int lose(int)", "int put(int, int, int, int)", "int get(int, int, int)",
        "int copy(int, int, int, int, int)", "int write(int, int)", "int count(int)", "long digest()",
    };

    private FaceTest() {
    }

    private static String told(Method m) {
        StringBuilder b = new StringBuilder();
        b.append(m.getReturnType().getName()).append(' ').append(m.getName()).append('(');
        String between = "";
        for (Class<?> p : m.getParameterTypes()) {
            b.append(between).append(p.getName());
            between = ", ";
        }
        return b.append(')').toString();
    }

    public static void main(String[] args) {
        Due due = new Due();
        Class<?> face = NumberedWaves.class;
        due.isTrue("the class is public and final",
            Modifier.isPublic(face.getModifiers()) && Modifier.isFinal(face.getModifiers()));
        Set<String> seen = new TreeSet<>();
        Set<String> publicNames = new HashSet<>();
        Set<String> privateNames = new HashSet<>();
        for (Method m : face.getDeclaredMethods()) {
            if (Modifier.isPrivate(m.getModifiers())) {
                privateNames.add(m.getName());
            } else {
                seen.add(told(m));
                publicNames.add(m.getName());
                due.isTrue(told(m) + " is public", Modifier.isPublic(m.getModifiers()));
            }
        }
        Set<String> wanted = new TreeSet<>(Arrays.asList(METHODS));
        due.isTrue("methods are " + seen + ", not " + wanted, seen.equals(wanted));
        for (Class<?> inner : face.getDeclaredClasses()) {
            due.isTrue(inner + " is static", Modifier.isStatic(inner.getModifiers()));
            due.isTrue(inner + " is not public", !Modifier.isPublic(inner.getModifiers()));
            for (Method m : inner.getDeclaredMethods()) {
                privateNames.add(m.getName());
            }
        }
        privateNames.retainAll(publicNames);
        due.isTrue("private methods with public names: " + privateNames, privateNames.isEmpty());
        Constructor<?>[] makers = face.getDeclaredConstructors();
        due.isTrue("one public constructor without parameters", makers.length == 1
            && Modifier.isPublic(makers[0].getModifiers()) && makers[0].getParameterCount() == 0);
        Set<String> constants = new TreeSet<>();
        for (Field f : face.getDeclaredFields()) {
            if (!Modifier.isPrivate(f.getModifiers())) {
                constants.add(f.getName());
                due.isTrue(f + " is public static final", Modifier.isPublic(f.getModifiers())
                    && Modifier.isStatic(f.getModifiers()) && Modifier.isFinal(f.getModifiers()));
            }
            if (Modifier.isStatic(f.getModifiers())) {
                due.isTrue(f + " is final", Modifier.isFinal(f.getModifiers()));
            }
        }
        due.isTrue("constants are " + constants,
            constants.equals(new TreeSet<>(Arrays.asList("NONE", "BAD", "NOT", "FULL"))));
        due.is("NONE", NumberedWaves.NONE, -1);
        due.is("BAD", NumberedWaves.BAD, -2);
        due.is("NOT", NumberedWaves.NOT, -3);
        due.is("FULL", NumberedWaves.FULL, -4);
        due.end();
    }
}
