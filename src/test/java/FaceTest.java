import java.lang.reflect.Constructor;
import java.lang.reflect.Field;
import java.lang.reflect.Method;
import java.lang.reflect.Modifier;
import java.util.ArrayList;
import java.util.Arrays;
import java.util.List;
import java.util.Set;
import java.util.TreeSet;

/** The public face is that of the document, and nothing else of the class can be seen. */
public final class FaceTest {
    private static final String[] CALLS = {
        "int table(int)", "int arrow(int,int,int)", "int way(int,int,int,int)", "int close(int)", "int fault(int,int)",
        "int order(int,long)", "int turned(int)", "int beside(int,int)", "int about(int,int)", "int end(int,int,int)",
        "int wayOf(int,int,int)", "int carriers(int,int)", "int carrier(int,int,int)", "int then(int,int)",
        "int told(int,int)", "int gives(int,int)", "int same(int,int)", "int bridges(int,int)",
        "int bridge(int,int,int,int)", "int limit(int)", "int leg(int)", "int cones(int,int)", "int answer(int,int,int)",
        "int answers(int)", "int sieves(int,int)", "int sieve(int,int,int)", "int pull(int,int,int,int)",
        "int follows(int,int,int,int)", "int count(int)", "long digest()"};

    public static void main(String[] args) {
        Class<?> face = ArrowTables.class;
        Due.is("modifiers", face.getModifiers(), Modifier.PUBLIC | Modifier.FINAL);
        Set<String> names = new TreeSet<>();
        List<String> found = new ArrayList<>();
        for (Method m : face.getDeclaredMethods()) {
            if (Modifier.isPrivate(m.getModifiers())) {
                continue;
            }
            Due.is("modifiers of " + m.getName(), m.getModifiers(), Modifier.PUBLIC);
            List<String> types = new ArrayList<>();
            for (Class<?> type : m.getParameterTypes()) {
                types.add(type.getName());
            }
            found.add(m.getReturnType().getName() + " " + m.getName() + "(" + String.join(",", types) + ")");
            names.add(m.getName());
        }
        Due.holds("the calls are those of the document: " + found, new TreeSet<>(found).equals(new TreeSet<>(Arrays.asList(CALLS))));
        Set<String> constants = new TreeSet<>();
        for (Field f : face.getDeclaredFields()) {
            if (!Modifier.isPrivate(f.getModifiers())) {
                Due.is("modifiers of " + f.getName(), f.getModifiers(), Modifier.PUBLIC | Modifier.STATIC | Modifier.FINAL);
                Due.holds(f.getName() + " is an int", f.getType() == int.class);
                constants.add(f.getName());
            }
        }
        Due.holds("constants", constants.equals(new TreeSet<>(Arrays.asList("NONE", "BAD", "NO", "FULL", "SPENT"))));
        Constructor<?>[] made = face.getDeclaredConstructors();
        Due.holds("one public constructor", made.length == 1 && made[0].getModifiers() == Modifier.PUBLIC && made[0].getParameterCount() == 0);
        inside(face, names);
        Due.end();
    }

    private static void inside(Class<?> face, Set<String> names) {
        int classes = 1;
        fields(face);
        for (Method m : face.getDeclaredMethods()) {
            Due.holds(m + " is private but for the face", !Modifier.isPrivate(m.getModifiers()) || !names.contains(m.getName()));
        }
        for (Class<?> c : face.getDeclaredClasses()) {
            classes++;
            Due.holds(c + " is static and not public", Modifier.isStatic(c.getModifiers()) && !Modifier.isPublic(c.getModifiers()));
            fields(c);
            for (Method m : c.getDeclaredMethods()) {
                Due.holds(m + " bears no name of the face", !names.contains(m.getName()));
                Due.holds(m + " takes seven at most", m.getParameterCount() <= 7);
            }
        }
        Due.holds("12 classes at most", classes <= 12);
    }

    private static void fields(Class<?> c) {
        int fields = 0;
        for (Field f : c.getDeclaredFields()) {
            boolean fixed = Modifier.isStatic(f.getModifiers());
            Due.holds(f + " is final if static", !fixed || Modifier.isFinal(f.getModifiers()));
            fields += fixed ? 0 : 1;
        }
        Due.holds(c + " has 20 fields at most", fields <= 20);
    }
}
