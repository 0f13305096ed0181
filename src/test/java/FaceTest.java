import java.lang.reflect.Constructor;
import java.lang.reflect.Field;
import java.lang.reflect.Method;
import java.lang.reflect.Modifier;
import java.util.Arrays;
import java.util.HashSet;
import java.util.Set;
import java.util.TreeSet;

/** The public face, member by member, and that nothing else can be seen. */
public final class FaceTest {
    private static final String FACE = """
        int layer(int,int,int)
        int follow(int,int,int)
        int set(int,int)
        int count(int)
        int feed(long,int)
        int text()
        int force(int)
        int asks(int,int,int,int)
        int place(int)
        int ties(int,int,int)
        int dig(int,int)
        int fill(int)
        int told(int,int)
        long think(int,int)
        long likely(int)
        int judge(int,int)
        long row(int,int)
        long best(int)
        int back(int)
        int index(int)
        int next()
        int rule(int,int,int)
        int ruleTold(int,int)
        long mean(int,int,int)
        int right(int)
        int goesBy(int,int)
        long bore(int,int)
        int far(int,int)
        long diviner(int,int)
        int believe(int)
        long fall(int,int)
        int line(int)
        int farm(int,int)
        int share(int,int)
        int join(int,int)
        long learn(int)
        int first()
        int drawn(int,int,int,int)
        int image()
        int undo()
        int sheet(int,int,int)
        int cell(int,int,int)
        int copy(int,int,int,int,int)
        int layersBy(int,int,int,int)
        int taken(int,int)
        """;

    public static void main(String[] args) throws Exception {
        Class<?> c = HowDeep.class;
        Due.holds("public and final", Modifier.isPublic(c.getModifiers()) && Modifier.isFinal(c.getModifiers()));
        methods(c);
        constants(c);
        Constructor<?>[] made = c.getDeclaredConstructors();
        Due.is("one constructor", made.length, 1);
        Due.holds("it is public, without parameters",
            Modifier.isPublic(made[0].getModifiers()) && made[0].getParameterCount() == 0);
        inside(c);
        Due.end("FaceTest");
    }

    private static void methods(Class<?> c) {
        Set<String> due = new TreeSet<>(Arrays.asList(FACE.strip().split("\n")));
        Set<String> names = new HashSet<>();
        Set<String> found = new TreeSet<>();
        for (Method m : c.getDeclaredMethods()) {
            if (Modifier.isPrivate(m.getModifiers()) || m.isSynthetic()) continue;
            Due.holds(m.getName() + " is public, not static",
                Modifier.isPublic(m.getModifiers()) && !Modifier.isStatic(m.getModifiers()));
            StringBuilder s = new StringBuilder(m.getReturnType() + " " + m.getName() + "(");
            for (Class<?> p : m.getParameterTypes()) s.append(s.toString().endsWith("(") ? "" : ",").append(p);
            found.add(s.append(")").toString());
            names.add(m.getName());
        }
        Due.holds("the methods are those of the document", found.equals(due));
        Due.is("45 methods", found.size(), 45);
        for (Class<?> k : all(c)) {
            for (Method m : k.getDeclaredMethods()) {
                boolean face = k == c && Modifier.isPublic(m.getModifiers());
                Due.holds(k + ": " + m.getName() + " bears no public name", face || !names.contains(m.getName()));
                Due.holds(m.getName() + " takes seven at most", m.getParameterCount() <= 7);
            }
        }
    }

    private static void constants(Class<?> c) throws Exception {
        Due.is("NONE", HowDeep.NONE, -1);
        Due.is("BAD", HowDeep.BAD, -2);
        Due.is("STATE", HowDeep.STATE, -3);
        Due.is("FULL", HowDeep.FULL, -4);
        Due.is("NO", HowDeep.NO, -4611686018427387904L);
        int seen = 0;
        for (Field f : c.getDeclaredFields()) {
            int how = f.getModifiers();
            if (Modifier.isPrivate(how)) continue;
            seen++;
            Due.holds(f.getName() + " is a public constant",
                Modifier.isPublic(how) && Modifier.isStatic(how) && Modifier.isFinal(how));
            Due.holds(f.getName() + " is of its type", f.getType() == (f.getName().equals("NO") ? long.class : int.class));
        }
        Due.is("five constants", seen, 5);
    }

    private static Set<Class<?>> all(Class<?> c) {
        Set<Class<?>> all = new HashSet<>(Arrays.asList(c.getDeclaredClasses()));
        all.add(c);
        return all;
    }

    private static void inside(Class<?> c) {
        Due.holds("some twelve classes", all(c).size() <= 12);
        for (Class<?> k : all(c)) {
            int own = 0;
            for (Field f : k.getDeclaredFields()) {
                boolean fixed = Modifier.isStatic(f.getModifiers());
                Due.holds(k + ": " + f.getName() + " is final, if it is static", !fixed || Modifier.isFinal(f.getModifiers()));
                if (!fixed) own++;
            }
            Due.holds(k + " has some twenty fields", own <= 20);
            if (k == c) continue;
            Due.holds(k + " is static and not public", Modifier.isStatic(k.getModifiers())
                && !Modifier.isPublic(k.getModifiers()) && !Modifier.isProtected(k.getModifiers()));
        }
    }
}
