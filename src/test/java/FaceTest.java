import java.lang.reflect.Constructor;
import java.lang.reflect.Field;
import java.lang.reflect.Method;
import java.lang.reflect.Modifier;
import java.util.Arrays;
import java.util.Set;
import java.util.TreeSet;

/** The public face, and LANGUAGE.md's rules 1 and 5 as far as they can be seen from outside. */
public final class FaceTest {
    private static final Set<String> METHODS = new TreeSet<>(Arrays.asList(
        "public void SternDesk.take(int,int) throws java.lang.IllegalArgumentException",
        "public int SternDesk.part(int)",
        "public int SternDesk.terms()",
        "public int SternDesk.term(int)",
        "public int SternDesk.convergent(int,int)",
        "public int SternDesk.way(int)",
        "public int SternDesk.run(int)",
        "public int SternDesk.go(int,int)",
        "public int SternDesk.up()",
        "public int SternDesk.near(int,int,int) throws java.lang.IllegalArgumentException",
        "public int SternDesk.between(int,int,int,int) throws java.lang.IllegalArgumentException",
        "public int SternDesk.row(int)",
        "public int SternDesk.pick(int,int)",
        "public int SternDesk.place(int)",
        "public long SternDesk.floors(int)",
        "public long SternDesk.sawteeth()",
        "public int SternDesk.check()"));

    public static void main(String[] args) {
        Due due = new Due();
        Class<?> desk = SternDesk.class;
        due.is("NONE", SternDesk.NONE, -1);
        due.holds("public and final", desk.getModifiers() == (Modifier.PUBLIC | Modifier.FINAL));
        due.holds("no class above it", desk.getSuperclass() == Object.class && desk.getInterfaces().length == 0);
        methods(due, desk);
        fields(due, desk);
        Constructor<?>[] made = desk.getDeclaredConstructors();
        due.is("constructors", made.length, 1);
        due.holds("its constructor", made[0].toString().equals("public SternDesk()"));
        for (Class<?> inside : desk.getDeclaredClasses()) {
            int its = inside.getModifiers();
            due.holds(inside + " not public", !Modifier.isPublic(its) && !Modifier.isProtected(its));
            due.holds(inside + " static", Modifier.isStatic(its));
        }
        due.end();
    }

    private static void methods(Due due, Class<?> desk) {
        Set<String> seen = new TreeSet<>();
        Set<String> names = new TreeSet<>();
        for (Method method : desk.getDeclaredMethods()) {
            if (!Modifier.isPrivate(method.getModifiers())) {
                seen.add(method.toString());
                names.add(method.getName());
            }
        }
        due.holds("the methods of the face, seen are " + seen, seen.equals(METHODS));
        for (Method method : desk.getDeclaredMethods()) {
            if (Modifier.isPrivate(method.getModifiers())) {
                due.holds("a name of its own for " + method, !names.contains(method.getName()));
            }
        }
    }

    private static void fields(Due due, Class<?> desk) {
        for (Field field : desk.getDeclaredFields()) {
            int its = field.getModifiers();
            due.holds(field + " private or NONE", Modifier.isPrivate(its)
                || field.toString().equals("public static final int SternDesk.NONE"));
            due.holds(field + " final if static", !Modifier.isStatic(its) || Modifier.isFinal(its));
        }
    }
}
