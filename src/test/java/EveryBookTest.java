/** Books of many numbers of pages, in both modes, by several sets of schemes: every page and sheet, against the Model. */
public final class EveryBookTest {
    private static final Due DUE = new Due();
    private static final int CALLS = 500;

    private static final String[] TEXTS = {
        "kl;", "krr;", "ktbr;", "kbtrl;", "kl;kr;kl;kr;", "kl;krr;krrr;krrrr;", "krrrr;krrr;krr;kr;p0,0;p1,0;p2,0;p3,0;",
        "ktr;krbl;p0,11;p1,21;", "krbl;ktr;p0,20;p1,10;", "krbl;ktr;p0,21;", "kll;ktr;p1,9;p0,9;c0;", "ktr;kl;p1,0;p0,0;c7;",
        "kbbbr;kttl;p0,99;p1,50;c20;", "ktl;kbl;krl;kll;p0,9;p1,9;p2,8;p3,8;c3;",
    };
    private static final int[] PAGES = {1, 3, 4, 5, 8, 9, 16, 17, 31, 32, 33, 48, 63, 100, 399, 400};

    private FoldedPages x;
    private Model m;
    private String text;
    private int left;

    public static void main(String[] args) {
        for (String t : TEXTS) {
            for (int n : PAGES) {
                for (int mode = 0; mode < 2; mode++) {
                    String text = t + "n" + n + ";m" + mode + ";";
                    DUE.part(text);
                    EveryBookTest test = new EveryBookTest();
                    test.text = text;
                    test.m = new Model();
                    test.layModel();
                    test.askAll();
                }
            }
        }
        DUE.end();
    }

    private void layModel() {
        for (int i = 0; i < text.length(); i++) {
            m.write(text.charAt(i));
        }
        DUE.holds("the Model lays " + text, m.lay() > 0);
        m.spoil(0, 1);
        m.spoil(m.plan(0) / 2, 1);
    }

    /** An object answers 512 calls, so another one is made in time. */
    private FoldedPages x() {
        if (left == 0) {
            x = Made.laid(text);
            x.spoil(0, 1);
            x.spoil(x.plan(0) / 2, 1);
            left = CALLS - text.length() - 4;
        }
        left--;
        return x;
    }

    private void askAll() {
        for (int what = -1; what <= 4; what++) {
            DUE.is("plan(" + what + ")", x().plan(what), m.plan(what));
        }
        for (int k = 0; k <= 4; k++) {
            DUE.is("scheme(" + k + ", 5)", x().scheme(k, 5), m.scheme(k, 5));
        }
        int total = m.plan(3);
        for (int b = 0; b <= total + 1; b += total > 40 ? 7 : 1) {
            for (int what = 0; what <= 8; what++) {
                DUE.is("book(" + b + ", " + what + ")", x().book(b, what), m.book(b, what));
            }
        }
        for (int j = 0; j <= m.plan(0); j++) {
            for (int what = 0; what <= 4; what++) {
                DUE.is("sheet(" + j + ", " + what + ")", x().sheet(j, what), m.sheet(j, what));
            }
            for (int p = 0; p <= 33; p++) {
                DUE.is("number(" + j + ", " + p + ")", x().number(j, p), m.number(j, p));
            }
        }
        for (int i = -3; i <= m.missing(-1); i++) {
            DUE.is("missing(" + i + ")", x().missing(i), m.missing(i));
        }
        for (int n = 0; n <= 401; n += 13) {
            DUE.is("blanks(" + n + ")", x().blanks(n), m.blanks(n));
        }
    }
}
