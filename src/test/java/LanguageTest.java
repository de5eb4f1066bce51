import java.io.IOException;
import java.nio.charset.StandardCharsets;
import java.nio.file.Files;
import java.nio.file.Path;
import java.util.ArrayList;
import java.util.LinkedHashMap;
import java.util.List;
import java.util.Map;
import java.util.Set;
import java.util.TreeSet;
import java.util.regex.Matcher;
import java.util.regex.Pattern;

/**
 * What of LANGUAGE.md can be seen in the source's letters: words and signs that may not stand there, loops, what is made
 * and where, how long methods are and how deep they call. It leans on how the file is laid out (a method's head is one
 * line, its end a } of its own as far in), and says so if that is not kept.
 */
public final class LanguageTest {
    private static final Due DUE = new Due();
    private static final int MOST_LINES = 60;
    private static final int MOST_DEEP = 8;
    private static final int MOST_PARAMETERS = 7;
    private static final String[] REFUSED = {
        "\\bthrow\\b", "\\bthrows\\b", "\\btry\\b", "\\bcatch\\b", "\\bsynchronized\\b", "\\bassert\\b", "\\bimport\\b", "\\bpackage\\b",
        "->", "::", "\\bObject\\b", "\\bSystem\\.(?!arraycopy)", "Exact\\b", "\\bequals\\(", "\\bhashCode\\b", "\\btoString\\b",
        "\\bdouble\\b", "\\bfloat\\b", "\\bstatic \\{", "\\bprotected\\b", "\\bnative\\b", "\\bvolatile\\b", "@",
    };
    /* Of the library's methods that rule 4 lists, those that the class calls. */
    private static final Set<String> LIBRARY = Set.of("length", "charAt", "indexOf", "min");
    private static final Set<String> WORDS = Set.of("if", "for", "while", "switch", "return");

    private static final Pattern HEAD = Pattern.compile("^( {4}| {8})(?!return|if|for|while|switch)([A-Za-z][\\w\\[\\] ]* )?(\\w+)\\((.*)\\) \\{$");
    private static final Pattern CALL = Pattern.compile("(?<!new )\\b(\\w+)\\(");
    private static final Pattern FOR = Pattern.compile(
            "for \\(int (\\w+) = [^;]*; (?:\\1 <=? [^;]*; \\1\\+\\+|\\1 >=? [^;]*; \\1--)\\) \\{");
    private static final Pattern WHILE = Pattern.compile("while \\((\\w+) < .*\\) \\{");

    record Method(String name, String parameters, List<String> body) {
        boolean isConstructor() {
            return Character.isUpperCase(name.charAt(0));
        }
    }

    private final List<String> lines;
    private final Map<String, Method> methods = new LinkedHashMap<>();
    private final Map<String, Integer> depths = new LinkedHashMap<>();

    private LanguageTest(String code) {
        lines = List.of(code.split("\n"));
    }

    public static void main(String[] args) throws IOException {
        DUE.part("the language");
        Path source = Path.of("src/main/java/FoldedPages.java");
        String code = withoutComments(Files.readString(source, StandardCharsets.UTF_8));
        for (String refused : REFUSED) {
            Matcher m = Pattern.compile(refused).matcher(code);
            DUE.holds("no " + refused + " in " + source, !m.find());
        }
        for (int i = 0; i < code.length(); i++) {
            DUE.holds("plain letters alone", code.charAt(i) < 127);
        }
        LanguageTest test = new LanguageTest(code);
        test.readMethods();
        test.checkMethods();
        test.checkLoops();
        test.checkWhereThingsAreMade();
        test.checkCalls();
        DUE.end();
    }

    private static String withoutComments(String code) {
        return Pattern.compile("/\\*.*?\\*/|//[^\n]*", Pattern.DOTALL).matcher(code).replaceAll(
                m -> m.group().replaceAll("[^\n]", ""));
    }

    private void readMethods() {
        for (int i = 0; i < lines.size(); i++) {
            Matcher head = HEAD.matcher(lines.get(i));
            if (head.matches()) {
                int end = i;
                while (end < lines.size() && !lines.get(end).equals(head.group(1) + "}")) {
                    end++;
                }
                Method m = new Method(head.group(3), head.group(4), lines.subList(i + 1, end));
                DUE.holds("no two methods are named " + m.name, methods.put(m.name, m) == null);
            }
        }
        for (java.lang.reflect.Method m : FoldedPages.class.getDeclaredMethods()) {
            DUE.holds(m.getName() + " is found in the source", methods.containsKey(m.getName()));
        }
        for (Class<?> inside : FoldedPages.class.getDeclaredClasses()) {
            for (java.lang.reflect.Method m : inside.getDeclaredMethods()) {
                DUE.holds(m.getName() + " is found in the source", methods.containsKey(m.getName()));
            }
        }
    }

    /** Rule 11. */
    private void checkMethods() {
        for (Method m : methods.values()) {
            DUE.holds("short: " + m.name, m.body.size() < MOST_LINES);
            DUE.holds("at most seven parameters: " + m.name, m.parameters.split(",").length <= MOST_PARAMETERS);
        }
    }

    /** Rule 9: a loop counts one number up or down against a bound, in its own lines, and changes it nowhere else. */
    private void checkLoops() {
        for (int i = 0; i < lines.size(); i++) {
            String line = lines.get(i).trim();
            DUE.holds("no do: " + line, !line.matches("do\\b.*"));
            if (line.matches("(for|while)\\b.*")) {
                Matcher counted = FOR.matcher(line);
                Matcher waiting = WHILE.matcher(line);
                boolean isFor = counted.matches();
                boolean isWhile = waiting.matches();
                DUE.holds("a counter against a bound: " + line, isFor || isWhile);
                if (isFor || isWhile) {
                    checkCounter(line, isFor ? counted.group(1) : waiting.group(1), linesOfBlock(i), isFor ? 0 : 1);
                }
            }
        }
    }

    private List<String> linesOfBlock(int head) {
        String end = lines.get(head).replaceAll("\\S.*", "") + "}";
        int last = head;
        while (last < lines.size() && !lines.get(last).equals(end)) {
            last++;
        }
        return lines.subList(head + 1, last);
    }

    private static void checkCounter(String head, String counter, List<String> body, int due) {
        int counted = 0;
        int changed = 0;
        for (String line : body) {
            counted += line.trim().equals(counter + "++;") ? 1 : 0;
            changed += line.matches(".*(?<![\\w.])" + counter + "( [-+*/%&|^]?= |\\+\\+|--| >>?= | <<= ).*") ? 1 : 0;
        }
        DUE.is("how often it is counted in the lines of " + head, counted, due);
        DUE.is("how often it is changed in the lines of " + head, changed, due);
    }

    /** Rule 12 and the one room of all calls: only constructors and the fields of an object make objects and rows. */
    private void checkWhereThingsAreMade() {
        for (Method m : methods.values()) {
            if (!m.isConstructor()) {
                for (String line : m.body) {
                    DUE.holds(m.name + " makes nothing: " + line.trim(), !line.matches(".*(\\bnew\\b|\" \\+|\\+ \").*"));
                }
            }
        }
    }

    /** Rules 4, 8 and 11: only listed methods are called besides the file's own, none by itself, none too deep. */
    private void checkCalls() {
        for (Method m : methods.values()) {
            for (String called : callsIn(m)) {
                DUE.holds(m.name + " calls " + called + ", which is known", methods.containsKey(called) || LIBRARY.contains(called));
            }
        }
        for (Method m : methods.values()) {
            int deep = depthOf(m, new ArrayList<>());
            DUE.holds(m.name + " calls at most eight deep, itself counted, not " + deep, deep <= MOST_DEEP);
        }
    }

    private static Set<String> callsIn(Method m) {
        Set<String> called = new TreeSet<>();
        for (String line : m.body) {
            Matcher call = CALL.matcher(line);
            while (call.find()) {
                if (!WORDS.contains(call.group(1))) {
                    called.add(call.group(1));
                }
            }
        }
        return called;
    }

    private int depthOf(Method m, List<String> open) {
        if (depths.containsKey(m.name)) {
            return depths.get(m.name);
        }
        if (open.contains(m.name)) {
            DUE.holds("no method calls itself: " + open, false);
            return 0;
        }
        open.add(m.name);
        int deep = 0;
        for (String called : callsIn(m)) {
            if (methods.containsKey(called)) {
                deep = Math.max(deep, depthOf(methods.get(called), open));
            }
        }
        open.remove(open.size() - 1);
        depths.put(m.name, deep + 1);
        return deep + 1;
    }
}
