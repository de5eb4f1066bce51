/** Compares answers with those that are due; a test ends with exit code 1 if one was not. */
final class Due {
    private int wrong = 0;
    private int asked = 0;
    private String part = "";

    void part(String name) {
        part = name;
    }

    void is(String call, long got, long want) {
        asked++;
        if (got != want) {
            wrong++;
            if (wrong <= 50) {
                System.out.println(part + ": " + call + " answered " + got + ", due is " + want);
            }
        }
    }

    void holds(String what, boolean so) {
        asked++;
        if (!so) {
            wrong++;
            System.out.println(part + ": " + what + " does not hold");
        }
    }

    boolean allRight() {
        return wrong == 0;
    }

    void end() {
        System.out.println(wrong == 0 ? asked + " answers are as due" : wrong + " of " + asked + " answers are not as due");
        if (wrong != 0) {
            System.exit(1);
        }
    }
}
