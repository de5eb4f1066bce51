import java.io.IOException;
import java.lang.reflect.InvocationTargetException;
import java.lang.reflect.Method;
import java.lang.reflect.Modifier;
import java.nio.charset.StandardCharsets;
import java.nio.file.Files;
import java.nio.file.Path;
import java.util.HashMap;
import java.util.Map;
import java.util.Set;
import java.util.TreeSet;
import java.util.regex.Matcher;
import java.util.regex.Pattern;

/** What README.md shows of calls and answers is so: each line of its Java is made here as it stands there. */
public final class ReadmeTest {
    private static final Due DUE = new Due();
    private static final String MADE = "FoldedPages x = new FoldedPages();";
    private static final Pattern WRITTEN = Pattern.compile("for \\(char letter : \"([^\"]*)\"\\.toCharArray\\(\\)\\) x\\.write\\(letter\\);");
    private static final Pattern SHOWN = Pattern.compile("x\\.(\\w+)\\(((?:-?\\d+(?:, -?\\d+)*)?)\\); +// (-?\\d+|BAD|NO|FULL|NONE)(?:: .+)?");
    private static final Pattern CONSTANT = Pattern.compile("\\| `([A-Z]+)` \\| (-?\\d+) \\|.*");
    private static final Map<String, Integer> CONSTANTS = Map.of(
            "BAD", FoldedPages.BAD, "NO", FoldedPages.NO, "FULL", FoldedPages.FULL, "NONE", FoldedPages.NONE);

    private final Map<String, Method> methods = new HashMap<>();
    private final Set<String> notShown = new TreeSet<>();
    private FoldedPages x;

    public static void main(String[] args) throws IOException {
        new ReadmeTest().readAll();
        DUE.end();
    }

    private void readAll() throws IOException {
        for (Method m : FoldedPages.class.getDeclaredMethods()) {
            if (Modifier.isPublic(m.getModifiers())) {
                methods.put(m.getName(), m);
            }
        }
        notShown.addAll(methods.keySet());
        Set<String> constants = new TreeSet<>(CONSTANTS.keySet());
        boolean inJava = false;
        int number = 0;
        for (String line : Files.readAllLines(Path.of("README.md"), StandardCharsets.UTF_8)) {
            number++;
            DUE.part("README.md, line " + number);
            Matcher constant = CONSTANT.matcher(line);
            if (line.startsWith("```")) {
                inJava = line.equals("```java");
                x = null;
            } else if (inJava) {
                make(line);
            } else if (constant.matches() && constants.remove(constant.group(1))) {
                DUE.is(constant.group(1), CONSTANTS.get(constant.group(1)), Integer.parseInt(constant.group(2)));
            }
        }
        DUE.part("README.md");
        DUE.holds("each constant is told, but " + constants, constants.isEmpty());
        DUE.holds("each call is shown, but " + notShown, notShown.isEmpty());
        checkTests();
    }

    private void make(String line) {
        Matcher written = WRITTEN.matcher(line);
        Matcher shown = SHOWN.matcher(line);
        if (line.equals(MADE)) {
            x = new FoldedPages();
        } else if (x != null && written.matches()) {
            Made.write(x, written.group(1));
        } else if (x != null && shown.matches()) {
            check(shown.group(1), shown.group(2), shown.group(3));
        } else {
            DUE.holds("a call that can be made: " + line, line.isBlank());
        }
    }

    private void check(String name, String numbers, String answer) {
        notShown.remove(name);
        String[] parts = numbers.isEmpty() ? new String[0] : numbers.split(", ");
        Object[] with = new Object[parts.length];
        for (int i = 0; i < parts.length; i++) {
            with[i] = Integer.valueOf(parts[i]);
        }
        int due = CONSTANTS.containsKey(answer) ? CONSTANTS.get(answer) : Integer.parseInt(answer);
        Method m = methods.get(name);
        boolean so = m != null && m.getParameterCount() == parts.length;
        DUE.holds("there is a call " + name + "(" + numbers + ")", so);
        if (so) {
            DUE.is(name + "(" + numbers + ")", answerOf(m, with), due);
            DUE.holds("a number below 0 is told by its name", !answer.startsWith("-"));
        }
    }

    private int answerOf(Method m, Object[] with) {
        try {
            return (Integer) m.invoke(x, with);
        } catch (IllegalAccessException | InvocationTargetException e) {
            e.printStackTrace(System.out);
            DUE.holds(m.getName() + " answers", false);
            return Integer.MIN_VALUE;
        }
    }

    /** Each test of the project is told, and none that is not there. */
    private void checkTests() throws IOException {
        Set<String> told = new TreeSet<>();
        Matcher m = Pattern.compile("(?m)^\\| `(\\w+Test)` \\|").matcher(Files.readString(Path.of("README.md"), StandardCharsets.UTF_8));
        while (m.find()) {
            told.add(m.group(1));
        }
        Set<String> there = new TreeSet<>();
        try (var files = Files.newDirectoryStream(Path.of("src/test/java"), "*Test.java")) {
            for (Path file : files) {
                there.add(file.getFileName().toString().replace(".java", ""));
            }
        }
        DUE.holds("the tests told are those there: " + told + ", " + there, told.equals(there));
    }
}
