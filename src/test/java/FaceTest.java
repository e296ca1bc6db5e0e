import java.lang.reflect.Constructor;
import java.lang.reflect.Field;
import java.lang.reflect.Method;
import java.lang.reflect.Modifier;
import java.util.Set;
import java.util.TreeSet;

/** The public face: every constant, constructor and method of the document, and no other member that isn't private. */
public final class FaceTest {
    private static int wrong = 0;

    private static void same(String what, Object got, Object due) {
        if (!got.equals(due)) {
            wrong++;
            System.out.println(what + " is " + got + ", due is " + due);
        }
    }

    private static Set<String> openConstants() {
        Set<String> found = new TreeSet<>();
        for (Field f : TrieJoins.class.getDeclaredFields()) {
            if (!Modifier.isPrivate(f.getModifiers())) {
                found.add(Modifier.toString(f.getModifiers()) + " " + f.getType() + " " + f.getName());
            }
        }
        return found;
    }

    private static Set<String> openMethods() {
        Set<String> found = new TreeSet<>();
        for (Method m : TrieJoins.class.getDeclaredMethods()) {
            if (!Modifier.isPrivate(m.getModifiers())) {
                StringBuilder line = new StringBuilder(Modifier.toString(m.getModifiers()));
                line.append(' ').append(m.getReturnType()).append(' ').append(m.getName());
                for (Class<?> p : m.getParameterTypes()) {
                    line.append(' ').append(p);
                }
                found.add(line.toString());
            }
        }
        return found;
    }

    private static Set<String> constructors() {
        Set<String> found = new TreeSet<>();
        for (Constructor<?> c : TrieJoins.class.getDeclaredConstructors()) {
            found.add(c.toString());
        }
        return found;
    }

    public static void main(String[] args) {
        same("the class", Modifier.toString(TrieJoins.class.getModifiers()), "public final");
        same("the nested classes", TrieJoins.class.getDeclaredClasses().length, 0);
        same("the constructors", constructors(), new TreeSet<>(Set.of("public TrieJoins()")));
        same("the constants", openConstants(), new TreeSet<>(Set.of(
            "public static final int BAD", "public static final int FULL", "public static final int NONE")));
        same("the methods", openMethods(), new TreeSet<>(Set.of(
            "public int add int int", "public int remove int int", "public int rows int", "public int atom int int int",
            "public int cut int int", "public boolean ask int int", "public boolean whole int", "public int count int",
            "public int answer int int", "public int often int int int", "public int within int",
            "public int smallest int", "public int treeLike int", "public int idle int", "public boolean level int")));
        same("BAD", TrieJoins.BAD, -1);
        same("FULL", TrieJoins.FULL, -2);
        same("NONE", TrieJoins.NONE, -3);
        System.out.println(wrong == 0 ? "the face is as due" : wrong + " parts of the face are not as due");
        if (wrong != 0) {
            System.exit(1);
        }
    }
}
