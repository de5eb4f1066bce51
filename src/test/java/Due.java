import java.lang.reflect.Method;
import java.lang.reflect.Modifier;
import java.util.Arrays;
import java.util.Comparator;

/** Compares answers with those that are due; a test ends with exit code 1 if one was not. */
final class Due {
    private int wrong = 0;
    private int asked = 0;
    private String part = "";

    void part(String name) {
        part = name;
    }

    void is(String call, long got, long want) {
        asked++;
        if (got != want) {
            wrong++;
            if (wrong <= 50) {
                System.out.println(part + ": " + call + " answered " + got + ", due is " + want);
            }
        }
    }

    void holds(String what, boolean so) {
        asked++;
        if (!so) {
            wrong++;
            System.out.println(part + ": " + what + " does not hold");
        }
    }

    /** Each static method without parameters is a test of its own, so that none is forgotten. */
    void runAll(Class<?> tests) {
        Method[] all = tests.getDeclaredMethods();
        Arrays.sort(all, Comparator.comparing(Method::getName));
        for (Method test : all) {
            if (Modifier.isStatic(test.getModifiers()) && test.getParameterCount() == 0 && !test.isSynthetic()) {
                part(test.getName());
                run(test);
            }
        }
        end();
    }

    private void run(Method test) {
        int before = asked;
        try {
            test.invoke(null);
        } catch (ReflectiveOperationException e) {
            e.printStackTrace(System.out);
            holds("it runs to its end", false);
        }
        holds("it asks something", asked > before);
    }

    boolean allRight() {
        return wrong == 0;
    }

    void end() {
        System.out.println(wrong == 0 ? asked + " answers are as due" : wrong + " of " + asked + " answers are not as due");
        if (wrong != 0) {
            System.exit(1);
        }
    }
}
