/** Every text of folds, every cell and page of it, and every find(), against the literal Model. */
public final class EveryFoldTest {
    private static final Due DUE = new Due();

    public static void main(String[] args) {
        for (int n = 1; n <= 4; n++) {
            for (String t : Model.textsOf(n)) {
                DUE.part("folds " + t);
                askSheet(t);
            }
            DUE.part("find of " + n);
            findAll(n);
        }
        DUE.end();
    }

    private static void askSheet(String t) {
        Model.Folded folded = Model.foldedBy(t);
        FoldedPages x = Made.laid("k" + t + ";");
        DUE.is("scheme(0, 1)", x.scheme(0, 1), folded.columns());
        DUE.is("scheme(0, 2)", x.scheme(0, 2), folded.rows());
        DUE.is("scheme(0, 3)", x.scheme(0, 3), folded.pages());
        int[] over = new int[2];
        for (int p = 1; p <= folded.pages(); p++) {
            Model.Place at = folded.places().get(p);
            over[at.side()] += at.over();
            DUE.is("page at where page " + p + " is due", x.page(0, at.side(), at.c(), at.r()), p);
            DUE.is("where(0, " + p + ", 0)", x.where(0, p, 0), at.side());
            DUE.is("where(0, " + p + ", 1)", x.where(0, p, 1), at.c());
            DUE.is("where(0, " + p + ", 2)", x.where(0, p, 2), at.r());
            DUE.is("where(0, " + p + ", 3)", x.where(0, p, 3), at.over());
            DUE.is("where(0, " + p + ", 4)", x.where(0, p, 4), folded.pageAt(1 - at.side(), at.c(), at.r()));
            int right = at.side() == 0 ? at.c() + 1 : at.c() - 1;
            DUE.is("where(0, " + p + ", 5)", x.where(0, p, 5), folded.pageAt(at.side(), right, at.r()));
        }
        x = Made.laid("k" + t + ";");
        DUE.is("turned(0, 0)", x.turned(0, 0), over[0]);
        DUE.is("turned(0, 1)", x.turned(0, 1), over[1]);
        DUE.is("page(0, 0, columns, 0)", x.page(0, 0, folded.columns(), 0), FoldedPages.BAD);
        DUE.is("page(0, 0, 0, rows)", x.page(0, 0, 0, folded.rows()), FoldedPages.BAD);
        int alike = 0;
        for (String other : Model.textsOf(t.length())) {
            alike += Model.areAlike(t, other) ? 1 : 0;
        }
        DUE.is("alike(0)", x.alike(0), alike);
    }

    private static void findAll(int n) {
        Model m = new Model();
        for (int page = 1; page <= 2 << n; page++) {
            for (int side = 0; side < 2; side++) {
                for (int r = 0; r < 16; r++) {
                    FoldedPages x = new FoldedPages();
                    for (int c = 0; c < 16; c++) {
                        DUE.is("find(" + n + ", " + page + ", " + side + ", " + c + ", " + r + ")",
                                x.find(n, page, side, c, r), m.find(n, page, side, c, r));
                    }
                }
            }
        }
    }
}
