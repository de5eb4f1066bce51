import java.io.IOException;
import java.nio.charset.StandardCharsets;
import java.nio.file.Files;
import java.nio.file.Path;
import java.util.List;
import java.util.regex.Matcher;
import java.util.regex.Pattern;

/** What of LANGUAGE.md can be seen in the source's letters: words and signs that may not stand there, long methods. */
public final class LanguageTest {
    private static final Due DUE = new Due();
    private static final int MOST_LINES = 60;
    private static final String[] REFUSED = {
        "\\bthrow\\b", "\\bthrows\\b", "\\btry\\b", "\\bcatch\\b", "\\bsynchronized\\b", "\\bassert\\b", "\\bimport\\b", "\\bpackage\\b",
        "->", "::", "\\bObject\\b", "\\bSystem\\.(?!arraycopy)", "Exact\\b", "\\bequals\\(", "\\bhashCode\\b", "\\btoString\\b",
        "\\bdouble\\b", "\\bfloat\\b", "\\bstatic \\{", "\\bprotected\\b", "\\bnative\\b", "\\bvolatile\\b", "@",
    };

    public static void main(String[] args) throws IOException {
        DUE.part("the language");
        Path source = Path.of("src/main/java/FoldedPages.java");
        String code = withoutComments(Files.readString(source, StandardCharsets.UTF_8));
        for (String refused : REFUSED) {
            Matcher m = Pattern.compile(refused).matcher(code);
            DUE.holds("no " + refused + " in " + source, !m.find());
        }
        for (int i = 0; i < code.length(); i++) {
            DUE.holds("plain letters alone", code.charAt(i) < 127);
        }
        checkLengths(List.of(code.split("\n")));
        DUE.end();
    }

    private static String withoutComments(String code) {
        return Pattern.compile("/\\*.*?\\*/|//[^\n]*", Pattern.DOTALL).matcher(code).replaceAll(
                m -> m.group().replaceAll("[^\n]", ""));
    }

    private static final Pattern HEAD = Pattern.compile("^( {4,8})[a-z].*\\) \\{$");

    private static void checkLengths(List<String> lines) {
        for (int i = 0; i < lines.size(); i++) {
            Matcher head = HEAD.matcher(lines.get(i));
            if (head.matches()) {
                int end = i;
                while (end < lines.size() && !lines.get(end).equals(head.group(1) + "}")) {
                    end++;
                }
                DUE.holds("short: " + lines.get(i).trim(), end - i < MOST_LINES);
            }
        }
    }
}
