import java.util.List;
import java.util.TreeSet;

/**
 * Each number that a call takes, just below, just above and far outside of what is told: BAD; each call that is refused
 * as things stand, or finds none: NO, FULL, NONE. Behind each of them nothing has changed, in several states.
 */
public final class RefusedTest {
    private static final int BAD = -1, NO = -2, FULL = -3, NONE = -4;
    private static final Due DUE = new Due();

    private static final String FULL_TEXT = "kl;ktr;krbl;kbtrl;n9;m1;c3;p0,21;p1,10;p2,19;p3,30" + ";c11".repeat(36) + ";n123;";

    private static final Scene NEW = new Scene("a new object", null, List.of(), "");
    /* Seven changes, so that one of them can't be undone any more. */
    private static final Scene FILLED = new Scene("a full TEXT", FULL_TEXT, List.of(
            x -> x.tell(0, 399), x -> x.tell(0, 123), x -> x.price(3, 29), x -> x.tell(2, 0), x -> x.spoil(5, 1), x -> x.spoil(1, 1),
            x -> x.spoil(0, 1)), FULL_TEXT);
    private static final Scene SMALL = new Scene("one scheme", "kl;n11;m1;c20;", List.of(x -> x.spoil(0, 1), x -> x.spoil(2, 1)), "tr");
    private static final Scene FAULTY = new Scene("a TEXT with a fault", "krr;kl;n400;p1,0;", List.of(x -> x.tell(0, 398), x -> x.spoil(99, 1)), "kl;n0;");
    private static final Scene SEEN = new Scene("one to be changed", "kl;n9;", List.of(x -> x.tell(0, 10), x -> x.spoil(1, 1)), "kl;n9;");
    private static final Scene[] SCENES = {NEW, FILLED, SMALL, FAULTY};

    public static void main(String[] args) {
        DUE.runAll(RefusedTest.class);
    }

    // ---- how it is looked at

    interface Asked {
        int on(FoldedPages x, int[] with);
    }

    /** A number that a call takes: those that are tried among the told ones, and which are told. */
    record Arg(int low, int high, int least, int most) {
        static Arg of(int least, int most) {
            return new Arg(least, most, least, most);
        }

        /** Only this one is tried, since the others' bounds hang on it. */
        static Arg at(int v, int least, int most) {
            return new Arg(v, v, least, most);
        }

        TreeSet<Integer> outside() {
            TreeSet<Integer> all = new TreeSet<>(List.of(least - 1, most + 1, Integer.MIN_VALUE, Integer.MAX_VALUE));
            for (int far : new int[] {1 << 8, 1 << 16, 1 << 31}) {
                all.add(least + far);
                all.add(least - far);
            }
            all.removeIf(v -> v >= least && v <= most);
            return all;
        }
    }

    private static void refused(Scene s, String call, int due, Scene.Call c) {
        DUE.is(s.name + ": " + call, c.on(s.fresh()), due);
        DUE.holds(s.name + ": nothing changed behind " + call, s.staysBehind(c));
    }

    private static String told(String name, int[] with) {
        StringBuilder call = new StringBuilder(name).append('(');
        for (int i = 0; i < with.length; i++) {
            call.append(i == 0 ? "" : ", ").append(with[i]);
        }
        return call.append(')').toString();
    }

    /** Each number outside, the others at their least and at their most; and that all inside is told. */
    private static void bounds(Scene s, String name, Asked call, Arg... args) {
        int[] low = new int[args.length];
        int[] high = new int[args.length];
        for (int i = 0; i < args.length; i++) {
            low[i] = args[i].low;
            high[i] = args[i].high;
        }
        for (int corner = 0; corner < 1 << args.length; corner++) {
            int[] with = low.clone();
            for (int i = 0; i < args.length; i++) {
                with[i] = (corner >> i & 1) == 0 ? low[i] : high[i];
            }
            DUE.holds(s.name + ": " + told(name, with) + " is not BAD", call.on(s.fresh(), with) != BAD);
        }
        for (int i = 0; i < args.length; i++) {
            for (int v : args[i].outside()) {
                refusedAt(s, name, call, low, i, v);
                refusedAt(s, name, call, high, i, v);
            }
        }
    }

    private static void refusedAt(Scene s, String name, Asked call, int[] told, int i, int v) {
        int[] with = told.clone();
        with[i] = v;
        refused(s, told(name, with), BAD, x -> call.on(x, with));
    }

    private static Arg schemes(Scene s) {
        return Arg.of(0, s.fresh().count(0) - 1);
    }

    private static Arg scheme(Scene s, int k) {
        return Arg.at(k, 0, s.fresh().count(0) - 1);
    }

    private static Arg sheet(Scene s, int j) {
        return Arg.at(j, 0, s.fresh().plan(0) - 1);
    }

    // ---- BAD: a number is none that is told

    static void promise2WriteALetterThatIsNone() {
        for (Scene s : SCENES) {
            bounds(s, "write", (x, a) -> x.write(a[0]), Arg.of(32, 126));
        }
    }

    static void promise6TellANumberThatIsNone() {
        int[] least = {1, 0, 0};
        int[] most = {400, 20, 1};
        for (Scene s : SCENES) {
            for (int what = 0; what < 3; what++) {
                bounds(s, "tell", (x, a) -> x.tell(a[0], a[1]), Arg.at(what, 0, 2), Arg.of(least[what], most[what]));
            }
        }
    }

    static void promise7PriceThatIsNone() {
        for (Scene s : SCENES) {
            bounds(s, "price", (x, a) -> x.price(a[0], a[1]), schemes(s), Arg.of(0, 99));
        }
    }

    static void promise8FoldsOfASchemeThatIsNone() {
        for (Scene s : SCENES) {
            bounds(s, "folds", (x, a) -> x.folds(a[0]), schemes(s));
        }
    }

    static void promise9SpoilASheetThatIsNone() {
        for (Scene s : SCENES) {
            bounds(s, "spoil", (x, a) -> x.spoil(a[0], a[1]), Arg.of(0, s.fresh().plan(0) - 1), Arg.of(0, 1));
        }
    }

    static void promise11SchemeThatIsNone() {
        for (Scene s : SCENES) {
            bounds(s, "scheme", (x, a) -> x.scheme(a[0], a[1]), schemes(s), Arg.of(0, 5));
        }
    }

    static void promise12FoldThatIsNone() {
        for (Scene s : SCENES) {
            bounds(s, "fold", (x, a) -> x.fold(a[0], a[1]), schemes(s), Arg.of(0, 3));
        }
    }

    static void promise13CellThatIsNone() {
        for (Scene s : SCENES) {
            FoldedPages told = s.fresh();
            for (int k = 0; k < told.count(0); k++) {
                bounds(s, "page", (x, a) -> x.page(a[0], a[1], a[2], a[3]), scheme(s, k), Arg.of(0, 1),
                        Arg.of(0, told.scheme(k, 1) - 1), Arg.of(0, told.scheme(k, 2) - 1));
            }
        }
    }

    static void promise14PageThatIsNone() {
        for (Scene s : SCENES) {
            FoldedPages told = s.fresh();
            for (int k = 0; k < told.count(0); k++) {
                bounds(s, "where", (x, a) -> x.where(a[0], a[1], a[2]), scheme(s, k), Arg.of(1, told.scheme(k, 3)), Arg.of(0, 5));
            }
        }
    }

    static void promise15SideThatIsNone() {
        for (Scene s : SCENES) {
            bounds(s, "turned", (x, a) -> x.turned(a[0], a[1]), schemes(s), Arg.of(0, 1));
        }
    }

    static void promise16FindWithANumberThatIsNone() {
        for (int n = 1; n <= 4; n++) {
            int pages = 4 << (n - 1);
            for (Scene s : SCENES) {
                bounds(s, "find", (x, a) -> x.find(a[0], a[1], a[2], a[3], a[4]), Arg.at(n, 1, 4), Arg.of(1, pages), Arg.of(0, 1),
                        Arg.of(0, 15), Arg.of(0, 15));
            }
        }
    }

    static void promise17AlikeOfASchemeThatIsNone() {
        for (Scene s : SCENES) {
            bounds(s, "alike", (x, a) -> x.alike(a[0]), schemes(s));
        }
    }

    static void promise18UnlikeOfTooFewOrTooManyFolds() {
        for (Scene s : SCENES) {
            bounds(s, "unlike", (x, a) -> x.unlike(a[0]), Arg.of(1, 4));
        }
    }

    static void promise19PlanOfWhatIsNone() {
        for (Scene s : SCENES) {
            bounds(s, "plan", (x, a) -> x.plan(a[0]), Arg.of(0, 3));
        }
    }

    static void promise20BlanksOfTooFewOrTooManyPages() {
        for (Scene s : SCENES) {
            bounds(s, "blanks", (x, a) -> x.blanks(a[0]), Arg.of(1, 400));
        }
    }

    static void promise21PageOfTheBookThatIsNone() {
        for (Scene s : SCENES) {
            bounds(s, "book", (x, a) -> x.book(a[0], a[1]), Arg.of(1, s.fresh().plan(3)), Arg.of(0, 8));
        }
    }

    static void promise22NumberOfAPageThatIsNone() {
        for (Scene s : SCENES) {
            FoldedPages told = s.fresh();
            int last = told.plan(0) - 1;
            for (int j : new TreeSet<>(List.of(0, last / 2, last))) {
                bounds(s, "number", (x, a) -> x.number(a[0], a[1]), sheet(s, j), Arg.of(1, told.scheme(told.sheet(j, 0), 3)));
            }
        }
    }

    static void promise23SheetThatIsNone() {
        for (Scene s : SCENES) {
            bounds(s, "sheet", (x, a) -> x.sheet(a[0], a[1]), Arg.of(0, s.fresh().plan(0) - 1), Arg.of(0, 4));
        }
    }

    static void promise24MissingBelowMinusTwo() {
        for (Scene s : SCENES) {
            for (int i : new int[] {-3, -4, -258, -65538, Integer.MIN_VALUE + 1, Integer.MIN_VALUE}) {
                refused(s, "missing(" + i + ")", BAD, x -> x.missing(i));
            }
        }
    }

    static void promise25CountOfWhatIsNone() {
        for (Scene s : SCENES) {
            bounds(s, "count", (x, a) -> x.count(a[0]), Arg.of(0, 6));
        }
    }

    // ---- FULL: THE TEXT has 200 letters

    static void promise2WriteToAFullText() {
        for (int letter : new int[] {32, ';', 'k', 126}) {
            refused(FILLED, "write(" + letter + ")", FULL, x -> x.write(letter));
        }
    }

    // ---- NO: not as things stand

    static void promise5LayATextThatCanNotBe() {
        refused(NEW, "lay() of an empty TEXT", NO, x -> x.lay());
        refused(SMALL, "lay() of tr", NO, x -> x.lay());
        refused(FAULTY, "lay() of a TEXT with a fault", NO, x -> x.lay());
        Scene numbers = new Scene("numbers alone", "kbl;", List.of(x -> x.spoil(1, 1)), "n5;c6;m1;");
        refused(numbers, "lay() of a TEXT without a scheme", NO, x -> x.lay());
    }

    static void promise6TellWhatIsSo() {
        for (Scene s : SCENES) {
            for (int what = 0; what < 3; what++) {
                int w = what;
                int v = s.fresh().count(1 + what);
                refused(s, "tell(" + w + ", " + v + ")", NO, x -> x.tell(w, v));
            }
        }
    }

    static void promise7PriceThatIsSo() {
        for (Scene s : SCENES) {
            for (int k = 0; k < s.fresh().count(0); k++) {
                int at = k;
                int v = s.fresh().scheme(k, 4);
                refused(s, "price(" + k + ", " + v + ")", NO, x -> x.price(at, v));
            }
        }
    }

    static void promise8FoldsThatAreNoneOrTheseAlready() {
        for (String text : new String[] {"", "t", "b", "lt", "rrrb", "rrrrr", "lllll", "x", "R", "L", "rl;", "kr;", " r", "r ", "r".repeat(200)}) {
            Scene s = new Scene("THE TEXT " + text, "kl;kbtrl;n9;", List.of(x -> x.price(1, 9), x -> x.spoil(0, 1)), text);
            refused(s, "folds(0)", NO, x -> x.folds(0));
            refused(s, "folds(1)", NO, x -> x.folds(1));
        }
        String[] these = {"l", "rr", "tbl", "bbtr"};
        for (int k = 0; k < 4; k++) {
            int at = k;
            Scene s = new Scene("THE TEXT " + these[k], "kl;krr;ktbl;kbbtr;", List.of(x -> x.spoil(0, 1)), these[k]);
            refused(s, "folds(" + k + "), these", NO, x -> x.folds(at));
        }
    }

    static void promise9SpoilWhatIsSo() {
        for (Scene s : SCENES) {
            for (int j = 0; j < s.fresh().plan(0); j++) {
                int at = j;
                int is = s.fresh().sheet(j, 1);
                refused(s, "spoil(" + j + ", " + is + ")", NO, x -> x.spoil(at, is));
            }
        }
    }

    static void promise10UndoWithoutAChange() {
        refused(NEW, "undo()", NO, x -> x.undo());
        Scene laid = new Scene("just laid", "kl;kr;n9;", List.of(), "kl;kr;n9;");
        refused(laid, "undo()", NO, x -> x.undo());
        Scene undone = new Scene("all undone", "kl;n9;", List.of(x -> x.tell(0, 8), x -> x.undo()), "r");
        refused(undone, "undo()", NO, x -> x.undo());
    }

    // ---- NONE: there is none

    static void promise4FaultOfATextWithoutOne() {
        refused(NEW, "fault()", NONE, x -> x.fault());
        refused(FILLED, "fault()", NONE, x -> x.fault());
    }

    static void promise12FoldBehindTheLast() {
        refused(NEW, "fold(0, 1)", NONE, x -> x.fold(0, 1));
        refused(NEW, "fold(0, 3)", NONE, x -> x.fold(0, 3));
        refused(NEW, "fold(1, 3)", NONE, x -> x.fold(1, 3));
        refused(NEW, "fold(2, 2)", NONE, x -> x.fold(2, 2));
    }

    static void promise14NoPageToTheRight() {
        refused(NEW, "where(0, 1, 5)", NONE, x -> x.where(0, 1, 5));
        refused(NEW, "where(0, 3, 5)", NONE, x -> x.where(0, 3, 5));
    }

    static void promise16NoSuchText() {
        refused(NEW, "find(1, 1, 0, 0, 0)", NONE, x -> x.find(1, 1, 0, 0, 0));
        refused(NEW, "find(4, 32, 1, 15, 15)", NONE, x -> x.find(4, 32, 1, 15, 15));
    }

    static void promise24NotSoManyMissing() {
        refused(NEW, "missing(0)", NONE, x -> x.missing(0));
        for (Scene s : SCENES) {
            int many = s.fresh().missing(-1);
            for (int i : new int[] {many, many + 1, 400, 65536, Integer.MAX_VALUE}) {
                refused(s, "missing(" + i + ")", NONE, x -> x.missing(i));
            }
        }
    }

    // ---- asking changes nothing either

    static void whatIsAskedStays() {
        Scene.Call[] asks = {x -> x.fault(), x -> x.scheme(0, 5), x -> x.fold(0, 0), x -> x.page(0, 1, 1, 0), x -> x.where(0, 4, 5),
            x -> x.turned(0, 1), x -> x.find(4, 32, 1, 3, 3), x -> x.alike(0), x -> x.unlike(4), x -> x.plan(0), x -> x.blanks(399),
            x -> x.book(1, 7), x -> x.number(0, 4), x -> x.sheet(0, 4), x -> x.missing(-2), x -> x.missing(0), x -> x.count(5)};
        for (Scene s : SCENES) {
            for (int i = 0; i < asks.length; i++) {
                DUE.holds(s.name + ": nothing changed behind ask " + i, s.staysBehind(asks[i]));
            }
        }
    }

    /** So that what stays can't hold merely because no change is seen. */
    static void whatIsChangedIsSeen() {
        Scene.Call[] changes = {x -> x.write('k'), x -> x.wipe(), x -> x.tell(0, 29), x -> x.tell(1, 4), x -> x.price(0, 98),
            x -> x.spoil(0, 1 - x.sheet(0, 1)), x -> x.spoil(x.plan(0) - 1, 1 - x.sheet(x.plan(0) - 1, 1)), x -> x.undo(), x -> x.lay()};
        for (int i = 0; i < changes.length; i++) {
            DUE.holds("change " + i + " of " + SEEN.name + " is seen", !SEEN.staysBehind(changes[i]));
        }
        DUE.holds("folds() of " + SMALL.name + " is seen", !SMALL.staysBehind(x -> x.folds(0)));
    }

    // ---- of several the first of BAD, NO, NONE

    static void badIsToldAheadOfNo() {
        refused(NEW, "folds(3) of an empty TEXT", BAD, x -> x.folds(3));
        refused(FAULTY, "folds(-1) of a TEXT that is no folds", BAD, x -> x.folds(-1));
        refused(NEW, "spoil(2, 0), which is not spoiled", BAD, x -> x.spoil(2, 0));
        refused(SMALL, "spoil(0, 2), which is spoiled", BAD, x -> x.spoil(0, 2));
        refused(NEW, "price(3, 10)", BAD, x -> x.price(3, 10));
        refused(NEW, "tell(3, 0)", BAD, x -> x.tell(3, 0));
    }

    static void badIsToldAheadOfNone() {
        refused(NEW, "fold(0, 4)", BAD, x -> x.fold(0, 4));
        refused(NEW, "fold(3, 3)", BAD, x -> x.fold(3, 3));
        refused(NEW, "where(0, 5, 5)", BAD, x -> x.where(0, 5, 5));
        refused(NEW, "where(0, 1, 6)", BAD, x -> x.where(0, 1, 6));
        refused(NEW, "find(2, 9, 0, 0, 0)", BAD, x -> x.find(2, 9, 0, 0, 0));
        refused(NEW, "find(2, 1, 0, 16, 0)", BAD, x -> x.find(2, 1, 0, 16, 0));
        refused(NEW, "find(2, 1, 0, 0, 16)", BAD, x -> x.find(2, 1, 0, 0, 16));
        refused(NEW, "missing(-3)", BAD, x -> x.missing(-3));
    }

    static void badIsToldAheadOfFull() {
        refused(FILLED, "write(31)", BAD, x -> x.write(31));
        refused(FILLED, "write(127)", BAD, x -> x.write(127));
    }
}
