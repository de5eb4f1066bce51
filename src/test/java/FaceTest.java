import java.lang.reflect.Constructor;
import java.lang.reflect.Field;
import java.lang.reflect.Method;
import java.lang.reflect.Modifier;
import java.util.Set;
import java.util.TreeSet;

/** The public face is the document's and nothing else is visible; what classes and fields there are (LANGUAGE.md, rules 1, 2, 3, 5 and 11). */
public final class FaceTest {
    private static final Due DUE = new Due();
    private static final int MOST_CLASSES = 12;
    private static final int MOST_FIELDS = 20;
    private static final Set<Class<?>> PLAIN = Set.of(int.class, long.class, short.class, byte.class, char.class, boolean.class);
    private static final String[] METHODS = {
        "write/1", "wipe/0", "fault/0", "lay/0", "tell/2", "price/2", "folds/1", "spoil/2", "undo/0", "scheme/2", "fold/2",
        "page/4", "where/3", "turned/2", "find/5", "alike/1", "unlike/1", "plan/1", "blanks/1", "book/2", "number/2",
        "sheet/2", "missing/1", "count/1",
    };

    public static void main(String[] args) {
        DUE.part("the face");
        Class<?> face = FoldedPages.class;
        DUE.holds("public and final", Modifier.isPublic(face.getModifiers()) && Modifier.isFinal(face.getModifiers()));
        checkMethods(face);
        checkFields(face);
        for (Constructor<?> c : face.getDeclaredConstructors()) {
            DUE.holds("only the public constructor without parameters", Modifier.isPublic(c.getModifiers()) && c.getParameterCount() == 0);
        }
        checkClasses(face);
        DUE.end();
    }

    private static Set<String> publicNames() {
        Set<String> names = new TreeSet<>();
        for (String m : METHODS) {
            names.add(m.substring(0, m.indexOf('/')));
        }
        return names;
    }

    private static void checkMethods(Class<?> face) {
        Set<String> due = new TreeSet<>(Set.of(METHODS));
        for (Method m : face.getDeclaredMethods()) {
            if (Modifier.isPrivate(m.getModifiers())) {
                DUE.holds("a private method is not named " + m.getName(), !publicNames().contains(m.getName()));
                continue;
            }
            DUE.holds(m + " is of the face", due.remove(m.getName() + "/" + m.getParameterCount()));
            DUE.holds(m + " is public, takes and answers int", isPublicOfInts(m));
        }
        DUE.holds("all methods are there but " + due, due.isEmpty());
    }

    private static boolean isPublicOfInts(Method m) {
        boolean ints = m.getReturnType() == int.class;
        for (Class<?> p : m.getParameterTypes()) {
            ints &= p == int.class;
        }
        return ints && Modifier.isPublic(m.getModifiers()) && !Modifier.isStatic(m.getModifiers());
    }

    private static void checkFields(Class<?> face) {
        Set<String> due = new TreeSet<>(Set.of("BAD", "NO", "FULL", "NONE", "ZERO"));
        for (Field f : face.getDeclaredFields()) {
            if (!Modifier.isPrivate(f.getModifiers())) {
                DUE.holds(f + " is a constant of the face", due.remove(f.getName()) && Modifier.isPublic(f.getModifiers()));
            }
        }
        DUE.holds("all constants are there but " + due, due.isEmpty());
        DUE.is("BAD", FoldedPages.BAD, -1);
        DUE.is("NO", FoldedPages.NO, -2);
        DUE.is("FULL", FoldedPages.FULL, -3);
        DUE.is("NONE", FoldedPages.NONE, -4);
        DUE.is("ZERO", FoldedPages.ZERO, 100000);
    }

    private static void checkClasses(Class<?> face) {
        DUE.holds("some twelve classes at most", face.getDeclaredClasses().length < MOST_CLASSES);
        checkState(face);
        for (Class<?> inside : face.getDeclaredClasses()) {
            int m = inside.getModifiers();
            DUE.holds(inside + " is static and not public", Modifier.isStatic(m) && !Modifier.isPublic(m) && !Modifier.isProtected(m));
            DUE.holds(inside + " holds no class", inside.getDeclaredClasses().length == 0);
            for (Method method : inside.getDeclaredMethods()) {
                DUE.holds(method + " is not named as one of the face", !publicNames().contains(method.getName()));
            }
            checkState(inside);
        }
    }

    /** Static fields are constants, the others of the types that the language leaves, and not too many. */
    private static void checkState(Class<?> type) {
        int fields = 0;
        for (Field f : type.getDeclaredFields()) {
            if (Modifier.isStatic(f.getModifiers())) {
                DUE.holds(f + " is final", Modifier.isFinal(f.getModifiers()));
                DUE.holds(f + " is a number, a text or a row of numbers", PLAIN.contains(f.getType()) || f.getType() == String.class
                        || f.getType() == int[].class);
            } else {
                fields++;
                DUE.holds(f + " is of a type that the language leaves", isLeft(f.getType()));
            }
        }
        DUE.holds(type + " has some twenty fields at most", fields <= MOST_FIELDS);
    }

    private static boolean isLeft(Class<?> type) {
        if (!type.isArray()) {
            return PLAIN.contains(type) || isOwn(type);
        }
        Class<?> of = type.getComponentType();
        return PLAIN.contains(of) || isOwn(of) || of.isArray() && PLAIN.contains(of.getComponentType());
    }

    private static boolean isOwn(Class<?> type) {
        return type.getDeclaringClass() == FoldedPages.class;
    }
}
