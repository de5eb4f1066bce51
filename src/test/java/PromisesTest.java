/** Promise by promise: ordinary inputs, the edges that the document names, and wrong inputs; answers worked out by hand. */
public final class PromisesTest {
    private static final int BAD = -1, NO = -2, FULL = -3, NONE = -4, ZERO = 100000;
    private static final int LOW = Integer.MIN_VALUE, HIGH = Integer.MAX_VALUE;
    private static final Due DUE = new Due();

    public static void main(String[] args) {
        newObject();
        write();
        wipe();
        fault();
        lay();
        tell();
        price();
        folds();
        spoil();
        undo();
        scheme();
        fold();
        page();
        where();
        turned();
        find();
        alike();
        unlike();
        plan();
        blanks();
        book();
        number();
        sheet();
        missing();
        count();
        DUE.end();
    }

    private static void is(String call, int got, int want) {
        DUE.is(call, got, want);
    }

    private static void newObject() {
        DUE.part("promise 1");
        FoldedPages x = new FoldedPages();
        int[] counts = {3, 30, 2, 0, 0, 0, 0};
        for (int what = 0; what < counts.length; what++) {
            is("count(" + what + ")", x.count(what), counts[what]);
        }
        String[] texts = {"l", "rbl", "tr"};
        int[] prices = {10, 14, 10};
        for (int k = 0; k < texts.length; k++) {
            is("scheme(" + k + ", 0)", x.scheme(k, 0), texts[k].length());
            is("scheme(" + k + ", 4)", x.scheme(k, 4), prices[k]);
            for (int i = 0; i < texts[k].length(); i++) {
                is("fold(" + k + ", " + i + ")", x.fold(k, i), texts[k].charAt(i));
            }
        }
        is("undo()", x.undo(), NO);
        is("wipe()", x.wipe(), 0);
        FoldedPages y = new FoldedPages();
        x.tell(0, 7);
        is("count(1) of another object", y.count(1), 30);
    }

    private static void write() {
        DUE.part("promise 2");
        FoldedPages x = new FoldedPages();
        is("write(32)", x.write(32), 1);
        is("write(126)", x.write(126), 2);
        for (int letter : new int[] {31, 127, 0, -1, 128, 65536 + 'k', LOW, HIGH}) {
            is("write(" + letter + ")", x.write(letter), BAD);
        }
        is("count(6)", x.count(6), 2);
        for (int i = 3; i <= 200; i++) {
            is("write, the " + i + "-th", x.write('a'), i);
        }
        is("write, the 201st", x.write('a'), FULL);
        is("write(31) when full", x.write(31), BAD);
        is("count(6) when full", x.count(6), 200);
    }

    private static void wipe() {
        DUE.part("promise 3");
        FoldedPages x = Made.written("kr;");
        is("wipe()", x.wipe(), 3);
        is("wipe() again", x.wipe(), 0);
        is("count(6)", x.count(6), 0);
        is("fault()", x.fault(), NONE);
        is("write behind it", x.write('n'), 1);
        is("count(1): all else stays", x.count(1), 30);
    }

    private static void faultOf(String text, int due) {
        FoldedPages x = Made.written(text);
        is("fault() of '" + text + "'", x.fault(), due);
        is("count(0) behind it", x.count(0), 3);
    }

    private static void fault() {
        DUE.part("promise 4");
        for (String text : new String[] {"", "kl;", "kr;", "ktbtl;", "n1;", "n400;", "n001;", "n040;", "c0;", "c20;", "c020;", "m0;", "m1;", "m001;",
            "kl;p0,0;", "kl;p000,099;", "kl;kl;kl;kl;p3,99;", "kr;n5;n6;n7;"}) {
            faultOf(text, NONE);
        }
        for (String text : new String[] {";", "k;", "kt;", "kb;", "krb;", "krrrrr;", "kR;", "kxr;", "k r;", "kr ;", "K;", "n;", "n0;", "n401;", "n0001;", "n-1;",
            "n1a;", "c;", "c21;", "c0020;", "m;", "m2;", "m11;", "p0,1;", "x;", "kl", "k", "n16", " kl;", "r;", ",;", "n4,5;"}) {
            faultOf(text, 0);
        }
        for (String text : new String[] {"p1,5;", "p0,100;", "p0;", "p0,;", "p,5;", "p;", "p0,5,5;", "p0000,5;", "p0,0005;", "p-1,5;", "p0, 5;", ";", "kt;", "p0,5"}) {
            faultOf("kl;" + text + "kt;", 3);
        }
        faultOf("kl;kl;kl;kl;kl;", 12);
        faultOf("kl;kl;kl;kl;p4,1;", 12);
        faultOf("kl;n30;c2;m1;kr", 13);
        faultOf("n5;kt;n0;", 3);
        faultOf("kr;;", 3);
    }

    private static void layOf(String text, int due) {
        FoldedPages x = Made.written(text);
        x.spoil(1, 1);
        x.tell(1, 9);
        x.spoil(0, 1);
        is("lay() of '" + text + "'", x.lay(), due);
        boolean so = due > 0;
        is("count(5) behind it", x.count(5), so ? 0 : 3);
        is("count(4) behind it", x.count(4), so ? 0 : 1);
        is("count(6) behind it", x.count(6), text.length());
        if (!so) {
            is("count(0) stays", x.count(0), 3);
            is("count(2) stays", x.count(2), 9);
        }
    }

    private static void lay() {
        DUE.part("promise 5");
        layOf("kl;", 1);
        layOf("kl;ktr;", 2);
        layOf("kr;kr;kr;kr;", 4);
        layOf("n7;krr;c5;", 1);
        layOf("", NO);
        layOf("n7;", NO);
        layOf("kl;n0;", NO);
        layOf("kl", NO);
        layOf("kl;kl;kl;kl;kl;", NO);
        FoldedPages x = Made.laid("kbl;n33;c7;m1;p0,3;p0,4;n34;c8;m0;");
        int[] counts = {1, 34, 8, 0, 0, 0, 34};
        for (int what = 0; what < counts.length; what++) {
            is("count(" + what + ")", x.count(what), counts[what]);
        }
        is("scheme(0, 4)", x.scheme(0, 4), 4);
        Made.writeAnew(x, "kl;kr;");
        is("lay() anew", x.lay(), 2);
        is("count(1): 16 without", x.count(1), 16);
        is("count(2): 2 without", x.count(2), 2);
        is("count(3): 0 without", x.count(3), 0);
        is("scheme(0, 4): 10 without", x.scheme(0, 4), 10);
        is("scheme(1, 4): 10 without", x.scheme(1, 4), 10);
    }

    private static void tell() {
        DUE.part("promise 6");
        FoldedPages x = new FoldedPages();
        int[] was = {30, 2, 0};
        int[] least = {1, 0, 0};
        int[] most = {400, 20, 1};
        for (int what = 0; what < 3; what++) {
            is("tell(" + what + "), as it is", x.tell(what, was[what]), NO);
            is("tell(" + what + "), too little", x.tell(what, least[what] - 1), BAD);
            is("tell(" + what + "), too much", x.tell(what, most[what] + 1), BAD);
            is("tell(" + what + "), far too much", x.tell(what, HIGH), BAD);
        }
        is("count(5): nothing changed", x.count(5), 0);
        for (int what = 0; what < 3; what++) {
            x.spoil(0, 1);
            is("tell(" + what + "), the most", x.tell(what, most[what]), was[what]);
            is("count(" + (what + 1) + ")", x.count(what + 1), most[what]);
            is("count(4): none is spoiled", x.count(4), 0);
            x.spoil(0, 1);
            is("tell(" + what + "), the same", x.tell(what, most[what]), NO);
            is("count(4): it stays spoiled", x.count(4), 1);
            is("tell(" + what + "), the least", x.tell(what, least[what]), most[what]);
        }
        for (int what : new int[] {-1, 3, LOW, HIGH}) {
            is("tell(" + what + ", 1)", x.tell(what, 1), BAD);
        }
    }

    private static void price() {
        DUE.part("promise 7");
        FoldedPages x = new FoldedPages();
        is("price(1, 0)", x.price(1, 0), 14);
        is("price(1, 99)", x.price(1, 99), 0);
        is("price(1, 99) again", x.price(1, 99), NO);
        is("price(2, 10)", x.price(2, 10), NO);
        is("scheme(1, 4)", x.scheme(1, 4), 99);
        is("count(5)", x.count(5), 2);
        x.spoil(0, 1);
        is("price(0, 11)", x.price(0, 11), 10);
        is("count(4): none is spoiled", x.count(4), 0);
        for (int k : new int[] {-1, 3, 4, LOW, HIGH}) {
            is("price(" + k + ", 5)", x.price(k, 5), BAD);
        }
        for (int v : new int[] {-1, 100, LOW, HIGH}) {
            is("price(0, " + v + ")", x.price(0, v), BAD);
        }
        x.price(1, 4);
        is("plan(2): 2 sheets of 4", x.plan(2), 8);
    }

    private static void folds() {
        DUE.part("promise 8");
        FoldedPages x = new FoldedPages();
        for (String text : new String[] {"", "t", "b", "lt", "rrrrr", "x", "R", "rl;", "kr;", " r", "r "}) {
            Made.writeAnew(x, text);
            is("folds(0) of '" + text + "'", x.folds(0), NO);
            is("folds(3) of '" + text + "'", x.folds(3), BAD);
        }
        Made.writeAnew(x, "rbl");
        is("folds(1), these", x.folds(1), NO);
        is("count(5): nothing changed", x.count(5), 0);
        x.spoil(1, 1);
        is("folds(0)", x.folds(0), 3);
        is("count(4): none is spoiled", x.count(4), 0);
        is("scheme(0, 0)", x.scheme(0, 0), 3);
        is("scheme(0, 3)", x.scheme(0, 3), 16);
        is("scheme(0, 4): the price stays", x.scheme(0, 4), 10);
        is("count(6): THE TEXT stays", x.count(6), 3);
        is("folds(0) again", x.folds(0), NO);
        Made.writeAnew(x, "tbtr");
        is("folds(2)", x.folds(2), 4);
        is("fold(2, 2)", x.fold(2, 2), 't');
        Made.writeAnew(x, "l");
        is("folds(2) of one", x.folds(2), 1);
        Made.writeAnew(x, "bl");
        is("folds(2): as many figures 0 ahead do not make it the same", x.folds(2), 2);
        for (int k : new int[] {-1, 3, LOW, HIGH}) {
            is("folds(" + k + ")", x.folds(k), BAD);
        }
    }

    private static void spoil() {
        DUE.part("promise 9");
        FoldedPages x = Made.laid("kl;n12;");
        is("spoil(0, 0)", x.spoil(0, 0), NO);
        is("spoil(2, 1)", x.spoil(2, 1), 1);
        is("spoil(0, 1)", x.spoil(0, 1), 2);
        is("spoil(0, 1) again", x.spoil(0, 1), NO);
        is("spoil(2, 0)", x.spoil(2, 0), 1);
        is("sheet(2, 1)", x.sheet(2, 1), 0);
        is("sheet(0, 1)", x.sheet(0, 1), 1);
        is("count(5)", x.count(5), 3);
        for (int j : new int[] {-1, 3, LOW, HIGH}) {
            is("spoil(" + j + ", 1)", x.spoil(j, 1), BAD);
        }
        for (int is : new int[] {-1, 2, LOW, HIGH}) {
            is("spoil(1, " + is + ")", x.spoil(1, is), BAD);
        }
        is("count(4)", x.count(4), 1);
        FoldedPages y = Made.laid("kl;n400;");
        is("spoil(99, 1), the last of 100", y.spoil(99, 1), 1);
        is("spoil(100, 1)", y.spoil(100, 1), BAD);
        is("missing(0)", y.missing(0), 397);
    }

    private static void undo() {
        DUE.part("promise 10");
        FoldedPages x = new FoldedPages();
        is("undo()", x.undo(), NO);
        x.spoil(1, 1);
        x.tell(0, 5);
        x.price(1, 3);
        Made.writeAnew(x, "rr");
        x.folds(0);
        x.tell(1, 0);
        x.tell(2, 1);
        is("count(5)", x.count(5), 6);
        x.tell(0, 6);
        is("count(5) stays 6", x.count(5), 6);
        is("undo() of N", x.undo(), 5);
        is("count(1)", x.count(1), 5);
        is("undo() of the mode", x.undo(), 4);
        is("count(3)", x.count(3), 0);
        is("undo() of THICK", x.undo(), 3);
        is("count(2)", x.count(2), 2);
        is("undo() of folds", x.undo(), 2);
        is("scheme(0, 0)", x.scheme(0, 0), 1);
        is("page(0, 0, 1, 0)", x.page(0, 0, 1, 0), 3);
        is("count(6): THE TEXT stays", x.count(6), 2);
        is("undo() of a price", x.undo(), 1);
        is("scheme(1, 4)", x.scheme(1, 4), 14);
        is("undo() of N, the first", x.undo(), 0);
        is("count(1)", x.count(1), 30);
        is("sheet(1, 1): it is spoiled again", x.sheet(1, 1), 1);
        is("plan(0)", x.plan(0), 2);
        is("undo(), the seventh", x.undo(), NO);
        x.spoil(1, 0);
        is("undo() of spoil", x.undo(), 0);
        is("count(4)", x.count(4), 1);
        x.tell(0, 9);
        Made.writeAnew(x, "kl;");
        x.lay();
        is("undo() behind lay()", x.undo(), NO);
    }

    private static void scheme() {
        DUE.part("promise 11");
        FoldedPages x = Made.laid("kl;ktbbr;krrrr;kbrtl;p2,7;n64;");
        int[][] due = {{1, 2, 1, 4, 10, 0}, {4, 2, 8, 32, 10, 0}, {4, 16, 1, 32, 7, 2}, {4, 4, 4, 32, 10, 0}};
        for (int k = 0; k < due.length; k++) {
            for (int what = 0; what < 6; what++) {
                is("scheme(" + k + ", " + what + ")", x.scheme(k, what), due[k][what]);
            }
        }
        for (int odd : new int[] {-1, 6, LOW, HIGH}) {
            is("scheme(" + odd + ", 0)", x.scheme(odd, 0), BAD);
            is("scheme(0, " + odd + ")", x.scheme(0, odd), BAD);
        }
        is("scheme(4, 0)", x.scheme(4, 0), BAD);
        is("scheme(3, 0) of three", new FoldedPages().scheme(3, 0), BAD);
    }

    private static void fold() {
        DUE.part("promise 12");
        FoldedPages x = Made.laid("kbtlr;kl;");
        int[] due = {'b', 't', 'l', 'r'};
        for (int i = 0; i < 4; i++) {
            is("fold(0, " + i + ")", x.fold(0, i), due[i]);
        }
        is("fold(1, 0)", x.fold(1, 0), 'l');
        is("fold(1, 1)", x.fold(1, 1), NONE);
        is("fold(1, 3)", x.fold(1, 3), NONE);
        for (int odd : new int[] {-1, 4, LOW, HIGH}) {
            is("fold(0, " + odd + ")", x.fold(0, odd), BAD);
            is("fold(1, " + odd + ")", x.fold(1, odd), BAD);
            is("fold(" + odd + ", 0)", x.fold(odd, 0), BAD);
        }
        is("fold(2, 0)", x.fold(2, 0), BAD);
    }

    private static void page() {
        DUE.part("promise 13");
        FoldedPages x = Made.laid("ktr;");
        int[][] front = {{3, 6}, {2, 7}};
        int[][] back = {{4, 5}, {1, 8}};
        for (int r = 0; r < 2; r++) {
            for (int c = 0; c < 2; c++) {
                is("page(0, 0, " + c + ", " + r + ")", x.page(0, 0, c, r), front[r][c]);
                is("page(0, 1, " + c + ", " + r + ")", x.page(0, 1, c, r), back[r][c]);
            }
        }
        for (int odd : new int[] {-1, 2, LOW, HIGH}) {
            is("page(" + odd + ", 0, 0, 0)", x.page(odd, 0, 0, 0), BAD);
            is("page(0, " + odd + ", 0, 0)", x.page(0, odd, 0, 0), BAD);
            is("page(0, 0, " + odd + ", 0)", x.page(0, 0, odd, 0), BAD);
            is("page(0, 0, 0, " + odd + ")", x.page(0, 0, 0, odd), BAD);
        }
        is("page(1, 0, 0, 0)", x.page(1, 0, 0, 0), BAD);
    }

    private static void where() {
        DUE.part("promise 14");
        FoldedPages x = Made.laid("ktr;");
        int[][] due = {{1, 0, 1, 0, 2, NONE}, {0, 0, 1, 0, 1, 7}, {0, 0, 0, 1, 4, 6}, {1, 0, 0, 1, 3, NONE},
            {1, 1, 0, 1, 6, 4}, {0, 1, 0, 1, 5, NONE}, {0, 1, 1, 0, 8, NONE}, {1, 1, 1, 0, 7, 1}};
        for (int page = 1; page <= 8; page++) {
            for (int what = 0; what < 6; what++) {
                is("where(0, " + page + ", " + what + ")", x.where(0, page, what), due[page - 1][what]);
            }
        }
        for (int odd : new int[] {-1, LOW, HIGH}) {
            is("where(" + odd + ", 1, 0)", x.where(odd, 1, 0), BAD);
            is("where(0, " + odd + ", 0)", x.where(0, odd, 0), BAD);
            is("where(0, 1, " + odd + ")", x.where(0, 1, odd), BAD);
        }
        is("where(1, 1, 0)", x.where(1, 1, 0), BAD);
        is("where(0, 0, 0)", x.where(0, 0, 0), BAD);
        is("where(0, 9, 5)", x.where(0, 9, 5), BAD);
        is("where(0, 1, 6)", x.where(0, 1, 6), BAD);
    }

    private static void turned() {
        DUE.part("promise 15");
        FoldedPages x = Made.laid("kl;ktr;krbl;ktbbr;");
        int[] due = {0, 2, 4, 8};
        for (int k = 0; k < 4; k++) {
            is("turned(" + k + ", 0)", x.turned(k, 0), due[k]);
            is("turned(" + k + ", 1)", x.turned(k, 1), due[k]);
        }
        for (int odd : new int[] {-1, 2, LOW, HIGH}) {
            is("turned(1, " + odd + ")", x.turned(1, odd), BAD);
        }
        is("turned(4, 0)", x.turned(4, 0), BAD);
        is("turned(-1, 0)", x.turned(-1, 0), BAD);
    }

    private static void find() {
        DUE.part("promise 16");
        FoldedPages x = new FoldedPages();
        is("find(1, 1, 1, 0, 0): l ahead of r", x.find(1, 1, 1, 0, 0), 1);
        is("find(1, 4, 1, 1, 0)", x.find(1, 4, 1, 1, 0), 1);
        is("find(1, 1, 0, 0, 0)", x.find(1, 1, 0, 0, 0), NONE);
        is("find(2, 3, 0, 0, 0): tl", x.find(2, 3, 0, 0, 0), 13);
        is("find(2, 1, 1, 0, 0): bl", x.find(2, 1, 1, 0, 0), 1);
        is("find(2, 1, 1, 3, 0): no text puts it there", x.find(2, 1, 1, 3, 0), NONE);
        is("find(4, 32, 1, 3, 3): lttl", x.find(4, 32, 1, 3, 3), 125);
        is("find(4, 1, 1, 15, 15)", x.find(4, 1, 1, 15, 15), NONE);
        for (int n : new int[] {0, 5, -1, LOW, HIGH}) {
            is("find(" + n + ", 1, 0, 0, 0)", x.find(n, 1, 0, 0, 0), BAD);
        }
        for (int n = 1; n <= 4; n++) {
            is("find(" + n + "), one page too many", x.find(n, (2 << n) + 1, 0, 0, 0), BAD);
            is("find(" + n + "), page 0", x.find(n, 0, 0, 0, 0), BAD);
            DUE.holds("the last page of " + n + " folds is told", x.find(n, 2 << n, 1, 15, 15) == NONE);
        }
        for (int odd : new int[] {-1, 16, LOW, HIGH}) {
            is("find(1, 1, " + odd + ", 0, 0)", x.find(1, 1, odd, 0, 0), BAD);
            is("find(1, 1, 0, " + odd + ", 0)", x.find(1, 1, 0, odd, 0), BAD);
            is("find(1, 1, 0, 0, " + odd + ")", x.find(1, 1, 0, 0, odd), BAD);
        }
        is("find(1, 1, 2, 0, 0)", x.find(1, 1, 2, 0, 0), BAD);
        is("page(1, 0, 0, 0): schemes stay", x.page(1, 0, 0, 0), 2);
    }

    private static void alike() {
        DUE.part("promise 17");
        FoldedPages x = Made.laid("kl;kr;kbtrl;krrrr;");
        for (int k = 0; k < 4; k++) {
            is("alike(" + k + ")", x.alike(k), 2);
        }
        for (int k : new int[] {-1, 4, LOW, HIGH}) {
            is("alike(" + k + ")", x.alike(k), BAD);
        }
    }

    private static void unlike() {
        DUE.part("promise 18");
        FoldedPages x = new FoldedPages();
        int[] due = {BAD, 1, 4, 16, 64, BAD};
        for (int n = 0; n < due.length; n++) {
            is("unlike(" + n + ")", x.unlike(n), due[n]);
        }
        is("unlike(2) behind unlike(4)", x.unlike(2), 4);
        is("unlike(-1)", x.unlike(-1), BAD);
        is("unlike(HIGH)", x.unlike(HIGH), BAD);
    }

    private static void planOf(String text, int... due) {
        FoldedPages x = Made.laid(text);
        for (int what = 0; what < 4; what++) {
            is("plan(" + what + ") of " + text, x.plan(what), due[what]);
        }
        for (int k = 0; 4 + k < due.length; k++) {
            is("scheme(" + k + ", 5) of " + text, x.scheme(k, 5), due[4 + k]);
        }
    }

    private static void plan() {
        DUE.part("promise 19");
        planOf("kl;n1;", 1, 3, 10, 4, 1);
        planOf("kl;n400;", 100, 0, 1000, 400, 100);
        planOf("kbtrl;n385;", 13, 31, 130, 416, 13);
        planOf("kl;krr;n8;p1,20;", 2, 0, 20, 8, 2, 0);
        planOf("krr;kl;n8;p0,20;", 1, 0, 20, 8, 1, 0);
        planOf("kl;krr;n8;p1,19;", 1, 0, 19, 8, 0, 1);
        planOf("krrr;kl;n17;p1,0;", 5, 3, 0, 20, 0, 5);
        planOf("krrr;kl;n17;p1,99;", 2, 3, 109, 20, 1, 1);
        planOf("kl;kr;kl;kr;n12;", 3, 0, 30, 12, 3, 0, 0, 0);
        planOf("kl;kr;kl;kr;n12;p0,11;p1,11;", 3, 0, 30, 12, 0, 0, 3, 0);
        planOf("krrrr;krr;n33;p0,0;p1,99;", 2, 7, 99, 40, 1, 1);
        planOf("kl;krr;krrr;n28;p0,0;p1,0;p2,0;", 7, 0, 0, 28, 7, 0, 0);
        FoldedPages x = new FoldedPages();
        for (int what : new int[] {-1, 4, LOW, HIGH}) {
            is("plan(" + what + ")", x.plan(what), BAD);
        }
    }

    private static void blanks() {
        DUE.part("promise 20");
        FoldedPages x = Made.laid("krrrr;krrr;n400;");
        is("blanks(1)", x.blanks(1), 15);
        is("blanks(16)", x.blanks(16), 0);
        is("blanks(17)", x.blanks(17), 15);
        is("blanks(399)", x.blanks(399), 1);
        is("blanks(400)", x.blanks(400), 0);
        is("plan(1) stays", x.plan(1), 0);
        is("count(1) stays", x.count(1), 400);
        FoldedPages y = Made.laid("krrrr;n1;");
        is("blanks(400) of sheets of 32", y.blanks(400), 16);
        is("blanks(385) of sheets of 32", y.blanks(385), 31);
        for (int n : new int[] {0, 401, -1, LOW, HIGH}) {
            is("blanks(" + n + ")", x.blanks(n), BAD);
        }
    }

    private static void book() {
        DUE.part("promise 21");
        FoldedPages x = Made.laid("ktr;kl;n11;c3;");
        is("plan(3)", x.plan(3), 12);
        x.spoil(1, 1);
        int[][] gathered = {{0, 1, 1, 0, 1, 0, 0, ZERO - 1, 0}, {0, 3, 0, 0, 0, 1, 1, ZERO + 2, 0}, {1, 1, 1, 0, 0, 0, 0, ZERO, 1}, {1, 4, 1, 1, 0, 0, 0, ZERO, 0}};
        bookRows(x, new int[] {1, 3, 9, 12}, gathered);
        x.tell(2, 1);
        x.spoil(1, 1);
        int[][] nested = {{0, 1, 1, 0, 1, 0, 0, ZERO - 3, 0}, {0, 4, 1, 0, 0, 1, 1, ZERO, 0}, {1, 1, 1, 0, 0, 0, 2, ZERO + 3, 1},
            {1, 4, 1, 1, 0, 0, 2, ZERO + 3, 1}, {0, 5, 1, 1, 0, 1, 1, ZERO, 0}, {0, 8, 1, 1, 1, 0, 0, ZERO - 3, 0}};
        bookRows(x, new int[] {1, 4, 5, 8, 9, 12}, nested);
        x.tell(1, 0);
        is("book(5, 7) of THICK 0", x.book(5, 7), ZERO);
        for (int odd : new int[] {-1, 0, 13, LOW, HIGH}) {
            is("book(" + odd + ", 0)", x.book(odd, 0), BAD);
        }
        for (int odd : new int[] {-1, 9, LOW, HIGH}) {
            is("book(1, " + odd + ")", x.book(1, odd), BAD);
        }
        FoldedPages y = Made.laid("krrr;n16;c1;");
        is("book(1, 7): half of 3, cut, is 1", y.book(1, 7), ZERO - 1);
        is("book(8, 7)", y.book(8, 7), ZERO + 2);
    }

    private static void bookRows(FoldedPages x, int[] pages, int[][] due) {
        for (int i = 0; i < pages.length; i++) {
            for (int what = 0; what < 9; what++) {
                is("book(" + pages[i] + ", " + what + ")", x.book(pages[i], what), due[i][what]);
            }
        }
    }

    private static void number() {
        DUE.part("promise 22");
        FoldedPages x = Made.laid("ktr;kl;n11;");
        is("number(0, 1)", x.number(0, 1), 1);
        is("number(0, 8)", x.number(0, 8), 8);
        is("number(1, 4): a blank one", x.number(1, 4), 12);
        x.tell(2, 1);
        is("number(0, 4)", x.number(0, 4), 4);
        is("number(0, 5)", x.number(0, 5), 9);
        is("number(0, 8)", x.number(0, 8), 12);
        is("number(1, 1)", x.number(1, 1), 5);
        is("number(1, 4)", x.number(1, 4), 8);
        is("number(1, 5)", x.number(1, 5), BAD);
        is("number(0, 9)", x.number(0, 9), BAD);
        for (int odd : new int[] {-1, LOW, HIGH}) {
            is("number(" + odd + ", 1)", x.number(odd, 1), BAD);
            is("number(0, " + odd + ")", x.number(0, odd), BAD);
        }
        is("number(2, 1)", x.number(2, 1), BAD);
        is("number(0, 0)", x.number(0, 0), BAD);
    }

    private static void sheet() {
        DUE.part("promise 23");
        FoldedPages x = Made.laid("ktr;kl;n11;");
        x.spoil(1, 1);
        int[][] gathered = {{0, 0, 1, 8, 0}, {1, 1, 9, 12, 1}};
        sheetRows(x, gathered);
        x.tell(2, 1);
        int[][] nested = {{0, 0, 1, 12, 1}, {1, 0, 5, 8, 0}};
        sheetRows(x, nested);
        for (int odd : new int[] {-1, 2, LOW, HIGH}) {
            is("sheet(" + odd + ", 0)", x.sheet(odd, 0), BAD);
        }
        for (int odd : new int[] {-1, 5, LOW, HIGH}) {
            is("sheet(0, " + odd + ")", x.sheet(0, odd), BAD);
        }
        is("sheet(0, 4): 31 of 32", Made.laid("krrrr;n1;").sheet(0, 4), 31);
    }

    private static void sheetRows(FoldedPages x, int[][] due) {
        for (int j = 0; j < due.length; j++) {
            for (int what = 0; what < 5; what++) {
                is("sheet(" + j + ", " + what + ")", x.sheet(j, what), due[j][what]);
            }
        }
    }

    private static void missingOf(FoldedPages x, int runs, int... pages) {
        is("missing(-2)", x.missing(-2), runs);
        is("missing(-1)", x.missing(-1), pages.length);
        for (int i = 0; i < pages.length; i++) {
            is("missing(" + i + ")", x.missing(i), pages[i]);
        }
        is("missing(" + pages.length + ")", x.missing(pages.length), NONE);
        is("missing(HIGH)", x.missing(HIGH), NONE);
        is("missing(-3)", x.missing(-3), BAD);
        is("missing(LOW)", x.missing(LOW), BAD);
    }

    private static void missing() {
        DUE.part("promise 24");
        FoldedPages x = Made.laid("kl;n14;");
        missingOf(x, 0);
        x.spoil(0, 1);
        missingOf(x, 1, 1, 2, 3, 4);
        x.spoil(3, 1);
        missingOf(x, 2, 1, 2, 3, 4, 13, 14);
        x.spoil(2, 1);
        missingOf(x, 2, 1, 2, 3, 4, 9, 10, 11, 12, 13, 14);
        x.tell(2, 1);
        missingOf(x, 0);
        x.spoil(1, 1);
        missingOf(x, 2, 3, 4, 13, 14);
        x.tell(0, 13);
        x.spoil(0, 1);
        missingOf(x, 1, 1, 2);
        x.tell(0, 1);
        x.spoil(0, 1);
        missingOf(x, 1, 1);
    }

    private static void count() {
        DUE.part("promise 25");
        FoldedPages x = Made.laid("kl;kr;n9;c4;m1;");
        x.spoil(0, 1);
        x.spoil(2, 1);
        int[] due = {2, 9, 4, 1, 2, 2, 15};
        for (int what = 0; what < due.length; what++) {
            is("count(" + what + ")", x.count(what), due[what]);
        }
        for (int what : new int[] {-1, 7, LOW, HIGH}) {
            is("count(" + what + ")", x.count(what), BAD);
        }
    }
}
