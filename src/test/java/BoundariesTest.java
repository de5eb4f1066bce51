/**
 * Each sentence of the document that names a boundary has a test of its own: the answers at the bound and just beyond
 * it, worked out by hand. What is refused, and that nothing changes then, is looked at by RefusedTest too.
 */
public final class BoundariesTest {
    private static final int BAD = -1, NO = -2, FULL = -3, NONE = -4, ZERO = 100000;
    private static final int LOW = Integer.MIN_VALUE, HIGH = Integer.MAX_VALUE;
    private static final Due DUE = new Due();

    public static void main(String[] args) {
        DUE.runAll(BoundariesTest.class);
    }

    private static void is(String call, int got, int want) {
        DUE.is(call, got, want);
    }

    private static void faultOf(String text, int due) {
        is("fault() of '" + text + "'", Made.written(text).fault(), due);
    }

    /** A text that has a fault is not laid, one that has none is, if it has a scheme. */
    private static void laidOf(String text, int fault, int schemes) {
        FoldedPages x = Made.written(text);
        is("fault() of '" + text + "'", x.fault(), fault);
        is("lay() of '" + text + "'", x.lay(), fault == NONE && schemes > 0 ? schemes : NO);
        is("count(0) behind '" + text + "'", x.count(0), fault == NONE && schemes > 0 ? schemes : 3);
    }

    private static void counts(FoldedPages x, int... due) {
        for (int what = 0; what < due.length; what++) {
            is("count(" + what + ")", x.count(what), due[what]);
        }
    }

    // ======== 1: schemes and sheets

    static void term1ASchemeIsOneToFourFolds() {
        laidOf("k;", 0, 0);
        laidOf("kr;", NONE, 1);
        laidOf("krr;", NONE, 1);
        laidOf("krrr;", NONE, 1);
        laidOf("krrrr;", NONE, 1);
        laidOf("krrrrr;", 0, 0);
        laidOf("k" + "r".repeat(198) + ";", 0, 0);
        for (int many = 1; many <= 4; many++) {
            FoldedPages x = Made.laid("k" + "l".repeat(many) + ";");
            is("scheme(0, 0) of " + many, x.scheme(0, 0), many);
            is("fold(0, " + (many - 1) + ") of " + many, x.fold(0, many - 1), 'l');
            is("fold(0, " + many + ") of " + many, x.fold(0, many), many == 4 ? BAD : NONE);
        }
    }

    static void term1TheLastFoldIsROrL() {
        for (String ahead : new String[] {"", "t", "bb", "trb"}) {
            laidOf("k" + ahead + "r;", NONE, 1);
            laidOf("k" + ahead + "l;", NONE, 1);
            laidOf("k" + ahead + "t;", 0, 0);
            laidOf("k" + ahead + "b;", 0, 0);
        }
    }

    /** Each letter at each place of texts of each length, told by an item and by folds(). */
    static void term1OtherLettersAreNoFolds() {
        for (int many = 1; many <= 4; many++) {
            for (int place = 0; place < many; place++) {
                for (int letter = 32; letter <= 126; letter++) {
                    String folds = "l".repeat(place) + (char) letter + "r".repeat(many - 1 - place);
                    boolean so = (place == many - 1 ? "rl" : "rltb").indexOf(letter) >= 0;
                    boolean endsTheItem = letter == ';' && place > 0;
                    faultOf("k" + folds + ";", so ? NONE : endsTheItem ? place + 2 : 0);
                    FoldedPages x = Made.laid("ktr;");
                    Made.writeAnew(x, folds);
                    is("folds(0) of '" + folds + "'", x.folds(0), so && !folds.equals("tr") ? many : NO);
                }
            }
        }
    }

    static void term1SchemesAreFourAtMost() {
        laidOf("kl;", NONE, 1);
        laidOf("kl;kl;", NONE, 2);
        laidOf("kl;kl;kl;", NONE, 3);
        laidOf("kl;kl;kl;kl;", NONE, 4);
        laidOf("kl;kl;kl;kl;kl;", 12, 0);
        laidOf("krrrr;krrrr;krrrr;krrrr;n5;kl;", 27, 0);
    }

    static void term1SchemesAreNumberedFrom0On() {
        FoldedPages x = Made.laid("kl;krr;ktbl;kbbtr;");
        for (int k = 0; k < 4; k++) {
            is("scheme(" + k + ", 0)", x.scheme(k, 0), k + 1);
        }
        is("scheme(-1, 0)", x.scheme(-1, 0), BAD);
        is("scheme(4, 0)", x.scheme(4, 0), BAD);
    }

    static void term1ColumnsAndRowsAre1WithoutAFold() {
        String[] texts = {"l", "rr", "tr", "ttr", "rbl", "llll", "tttl", "btrl"};
        int[] columns = {2, 4, 2, 2, 4, 16, 2, 4};
        int[] rows = {1, 1, 2, 4, 2, 1, 8, 4};
        for (int i = 0; i < texts.length; i++) {
            FoldedPages x = Made.laid("k" + texts[i] + ";");
            is("scheme(0, 1) of " + texts[i], x.scheme(0, 1), columns[i]);
            is("scheme(0, 2) of " + texts[i], x.scheme(0, 2), rows[i]);
            DUE.holds("the last cell of " + texts[i], x.page(0, 0, columns[i] - 1, rows[i] - 1) > 0);
            is("a column too far of " + texts[i], x.page(0, 0, columns[i], rows[i] - 1), BAD);
            is("a row too far of " + texts[i], x.page(0, 0, columns[i] - 1, rows[i]), BAD);
        }
    }

    static void term1PagesAreTwiceTheLeaves() {
        int[] pages = {4, 8, 16, 32};
        for (int many = 1; many <= 4; many++) {
            FoldedPages x = Made.laid("k" + "t".repeat(many - 1) + "r;");
            int last = pages[many - 1];
            is("scheme(0, 3)", x.scheme(0, 3), last);
            is("where(0, 0, 4)", x.where(0, 0, 4), BAD);
            is("where(0, 1, 4)", x.where(0, 1, 4), 2);
            is("where(0, last, 4)", x.where(0, last, 4), last - 1);
            is("where(0, last + 1, 4)", x.where(0, last + 1, 4), BAD);
        }
    }

    static void term1EachPageStandsOnOneCell() {
        FoldedPages x = Made.laid("kbtrl;");
        boolean[] met = new boolean[33];
        for (int cell = 0; cell < 16; cell++) {
            for (int side = 0; side < 2; side++) {
                int page = x.page(0, side, cell % 4, cell / 4);
                DUE.holds("page " + page + " is told and new", page >= 1 && page <= 32 && !met[page]);
                met[Math.max(0, Math.min(32, page))] = true;
            }
        }
    }

    static void term1ThePileIsTurnedOnceMoreIfTheLastFoldIsR() {
        for (String text : new String[] {"kl;", "kr;"}) {
            FoldedPages x = Made.laid(text);
            is("page(0, 1, 0, 0) of " + text, x.page(0, 1, 0, 0), 1);
            is("page(0, 0, 0, 0) of " + text, x.page(0, 0, 0, 0), 2);
            is("page(0, 0, 1, 0) of " + text, x.page(0, 0, 1, 0), 3);
            is("page(0, 1, 1, 0) of " + text, x.page(0, 1, 1, 0), 4);
        }
    }

    /** By t, t, t the pile is, from below, of rows 7, 0, 3, 4, 5, 2, 1, 6; by l that of column 0 is turned upon the other. */
    static void term1UpsideDownWhatIsTurnedOverAnOddNumberOfTimes() {
        FoldedPages x = Made.laid("ktttl;");
        int[] rowsInPile = {7, 0, 3, 4, 5, 2, 1, 6};
        for (int i = 0; i < 8; i++) {
            int page = 2 * i + 1;
            is("where(0, " + page + ", 1)", x.where(0, page, 1), 0);
            is("where(0, " + page + ", 2)", x.where(0, page, 2), rowsInPile[i]);
            is("where(0, " + page + ", 3)", x.where(0, page, 3), i % 2);
            is("where(0, " + page + ", 0)", x.where(0, page, 0), 1 - i % 2);
            is("where(0, " + (33 - page) + ", 1)", x.where(0, 33 - page, 1), 1);
            is("where(0, " + (33 - page) + ", 2)", x.where(0, 33 - page, 2), rowsInPile[i]);
        }
        is("turned(0, 0)", x.turned(0, 0), 8);
        is("turned(0, 1)", x.turned(0, 1), 8);
        is("turned(0, 0) without t and b", Made.laid("krlrl;").turned(0, 0), 0);
    }

    // ======== 2: the book

    static void term2TheBookHas1To400Pages() {
        laidOf("kl;n0;", 3, 0);
        laidOf("kl;n1;", NONE, 1);
        laidOf("kl;n400;", NONE, 1);
        laidOf("kl;n401;", 3, 0);
        laidOf("kl;n999;", 3, 0);
        is("count(1), the least", Made.laid("kl;n1;").count(1), 1);
        is("count(1), the most", Made.laid("kl;n400;").count(1), 400);
    }

    static void term2ThePlanHasNPagesOrMore() {
        int[] pages = {1, 3, 4, 5, 8, 397, 399, 400};
        int[] sheets = {1, 1, 1, 2, 2, 100, 100, 100};
        for (int i = 0; i < pages.length; i++) {
            FoldedPages x = Made.laid("kl;n" + pages[i] + ";");
            is("plan(0) of " + pages[i], x.plan(0), sheets[i]);
            is("plan(1) of " + pages[i], x.plan(1), sheets[i] * 4 - pages[i]);
            is("plan(2) of " + pages[i], x.plan(2), sheets[i] * 10);
            is("plan(3) of " + pages[i], x.plan(3), sheets[i] * 4);
        }
    }

    static void term2TheMostThatStaysBlank() {
        FoldedPages x = Made.laid("krrrr;n1;");
        is("plan(1) of 1 page on a sheet of 32", x.plan(1), 31);
        is("tell(0, 385)", x.tell(0, 385), 1);
        is("plan(3) of 385", x.plan(3), 416);
        is("plan(1) of 385", x.plan(1), 31);
        is("book(416, 1)", x.book(416, 1), 32);
        is("book(417, 1)", x.book(417, 1), BAD);
        is("tell(0, 384)", x.tell(0, 384), 385);
        is("plan(1) of 384", x.plan(1), 0);
        is("book(384, 1)", x.book(384, 1), 32);
        is("book(385, 1)", x.book(385, 1), BAD);
    }

    static void term2FewestBlanksAheadOfThePrice() {
        FoldedPages x = Made.laid("kl;krrrr;n32;p0,99;p1,0;");
        is("scheme(1, 5): 32 pages for nothing", x.scheme(1, 5), 1);
        x.tell(0, 28);
        is("scheme(0, 5): 7 sheets, since none stays blank", x.scheme(0, 5), 7);
        is("plan(1)", x.plan(1), 0);
        is("plan(2)", x.plan(2), 693);
        x.tell(0, 29);
        is("scheme(1, 5): 3 stay blank on both", x.scheme(1, 5), 1);
        is("plan(2)", x.plan(2), 0);
    }

    static void term2TheLeastPriceAheadOfTheOrder() {
        FoldedPages x = Made.laid("kl;krr;n8;p0,10;");
        int[] prices = {19, 20, 21};
        int[] sheetsOf0 = {0, 2, 2};
        for (int i = 0; i < 3; i++) {
            x.price(1, prices[i]);
            is("scheme(0, 5) by a price of " + prices[i], x.scheme(0, 5), sheetsOf0[i]);
            is("scheme(1, 5) by a price of " + prices[i], x.scheme(1, 5), sheetsOf0[i] == 0 ? 1 : 0);
            is("plan(2)", x.plan(2), Math.min(20, prices[i]));
        }
    }

    static void term2OfSeveralTheMostSheetsOfScheme0ThenOf1() {
        FoldedPages x = Made.laid("krr;kl;kr;krr;n20;p0,20;p3,20;");
        int[] due = {2, 1, 0, 0};
        for (int k = 0; k < 4; k++) {
            is("scheme(" + k + ", 5), all at one price a page", x.scheme(k, 5), due[k]);
        }
        x.price(0, 21);
        int[] behind = {0, 5, 0, 0};
        for (int k = 0; k < 4; k++) {
            is("scheme(" + k + ", 5), scheme 0 dearer", x.scheme(k, 5), behind[k]);
        }
        x.price(1, 11);
        int[] last = {0, 0, 5, 0};
        for (int k = 0; k < 4; k++) {
            is("scheme(" + k + ", 5), scheme 1 dearer, too", x.scheme(k, 5), last[k]);
        }
    }

    static void term2PricesOf0And99() {
        FoldedPages x = Made.laid("kl;n400;p0,0;");
        is("plan(2) by 0", x.plan(2), 0);
        is("price(0, 99)", x.price(0, 99), 0);
        is("plan(2) by 99", x.plan(2), 9900);
    }

    static void term2SheetsAreThoseOfScheme0ThenOf1() {
        FoldedPages x = Made.laid("krr;kl;kr;n20;p0,20;p1,11;");
        int[] schemes = {0, 0, 2};
        for (int j = 0; j < 3; j++) {
            is("sheet(" + j + ", 0)", x.sheet(j, 0), schemes[j]);
        }
        is("sheet(-1, 0)", x.sheet(-1, 0), BAD);
        is("sheet(3, 0)", x.sheet(3, 0), BAD);
    }

    static void term2GatheredSheetBehindSheet() {
        FoldedPages x = Made.laid("krr;kl;n20;p0,20;");
        int[] lowest = {1, 9, 17};
        int[] greatest = {8, 16, 20};
        for (int j = 0; j < 3; j++) {
            is("sheet(" + j + ", 2)", x.sheet(j, 2), lowest[j]);
            is("sheet(" + j + ", 3)", x.sheet(j, 3), greatest[j]);
            is("book(lowest, 1)", x.book(lowest[j], 1), 1);
            is("book(greatest, 1)", x.book(greatest[j], 1), j == 2 ? 4 : 8);
            is("book(greatest, 0)", x.book(greatest[j], 0), j);
        }
    }

    static void term2NestedHalvesAroundTheLastSheet() {
        FoldedPages x = Made.laid("krr;kl;n20;p0,20;m1;");
        int[][] due = {{1, 0, 1}, {4, 0, 4}, {5, 1, 1}, {8, 1, 4}, {9, 2, 1}, {10, 2, 2}, {11, 2, 3}, {12, 2, 4}, {13, 1, 5}, {16, 1, 8}, {17, 0, 5}, {20, 0, 8}};
        for (int[] row : due) {
            is("book(" + row[0] + ", 0)", x.book(row[0], 0), row[1]);
            is("book(" + row[0] + ", 1)", x.book(row[0], 1), row[2]);
            is("number(" + row[1] + ", " + row[2] + ")", x.number(row[1], row[2]), row[0]);
        }
    }

    static void term2OneSheetIsTheSameGatheredAndNested() {
        for (String mode : new String[] {"m0;", "m1;"}) {
            FoldedPages x = Made.laid("krrrr;n32;" + mode);
            for (int b = 1; b <= 32; b++) {
                is("book(" + b + ", 1)", x.book(b, 1), b);
                is("book(" + b + ", 6)", x.book(b, 6), Math.min((b - 1) / 2, (32 - b) / 2));
            }
        }
    }

    static void term2PagesAboveNAreBlanks() {
        FoldedPages x = Made.laid("kl;n6;");
        is("sheet(0, 4)", x.sheet(0, 4), 0);
        is("sheet(1, 4)", x.sheet(1, 4), 2);
        x.spoil(1, 1);
        is("book(6, 8), the last page", x.book(6, 8), 1);
        is("book(7, 8), the first blank one", x.book(7, 8), 0);
        is("book(8, 8), the last blank one", x.book(8, 8), 0);
        is("book(9, 8)", x.book(9, 8), BAD);
        FoldedPages y = Made.laid("kl;n5;m1;");
        is("sheet(0, 4), nested: pages 7 and 8", y.sheet(0, 4), 2);
        is("sheet(1, 4), nested: page 6", y.sheet(1, 4), 1);
    }

    static void term2OutIs0OutermostInEachHalf() {
        FoldedPages x = Made.laid("krrrr;n64;");
        int[] pages = {1, 2, 3, 15, 16, 17, 18, 30, 31, 32, 33, 48, 49, 64};
        int[] out = {0, 0, 1, 7, 7, 7, 7, 1, 0, 0, 0, 7, 7, 0};
        for (int i = 0; i < pages.length; i++) {
            is("book(" + pages[i] + ", 6)", x.book(pages[i], 6), out[i]);
        }
    }

    static void term2OutNestedAddsHalfTheLeavesOfLowerSheets() {
        FoldedPages x = Made.laid("krrrr;krr;n72;m1;");
        int[] pages = {1, 16, 17, 32, 33, 36, 37, 40, 41, 56, 57, 72};
        int[] out = {0, 7, 8, 15, 16, 17, 17, 16, 15, 8, 7, 0};
        for (int i = 0; i < pages.length; i++) {
            is("book(" + pages[i] + ", 6)", x.book(pages[i], 6), out[i]);
            is("book(" + pages[i] + ", 7)", x.book(pages[i], 7), ZERO + 2 * out[i] - 17);
        }
    }

    static void term2MostOutIsThatOfTheSheetGathered() {
        FoldedPages x = Made.laid("krrrr;krr;kl;n44;c20;");
        int[] pages = {1, 16, 32, 33, 35, 40, 41, 42, 44};
        int[] moved = {-70, 70, -70, -10, 10, -10, 0, 0, 0};
        for (int i = 0; i < pages.length; i++) {
            is("book(" + pages[i] + ", 7)", x.book(pages[i], 7), ZERO + moved[i]);
        }
    }

    static void term2MostOutIsThatOfAllPagesNestedBlankOnesToo() {
        FoldedPages x = Made.laid("krrrr;n1;c2;m1;");
        is("book(1, 7): MOST OUT is 7", x.book(1, 7), ZERO - 7);
        is("book(16, 7)", x.book(16, 7), ZERO + 7);
        is("book(1, 7), gathered", Made.laid("krrrr;n1;c2;").book(1, 7), ZERO - 7);
    }

    static void term2MovedIsCutAndMayBeLessThan0() {
        int[] thick = {0, 1, 2, 3, 19, 20};
        int[] half = {0, 3, 7, 10, 66, 70};
        for (int i = 0; i < thick.length; i++) {
            FoldedPages x = Made.laid("krrrr;n32;c" + thick[i] + ";");
            is("book(1, 7) by " + thick[i], x.book(1, 7), ZERO - half[i]);
            is("book(16, 7) by " + thick[i], x.book(16, 7), ZERO + 7 * thick[i] - half[i]);
        }
        FoldedPages far = Made.laid("kl;n400;m1;c20;");
        is("book(1, 7), the least", far.book(1, 7), ZERO - 990);
        is("book(200, 7), the most", far.book(200, 7), ZERO + 990);
        is("book(201, 7), the most", far.book(201, 7), ZERO + 990);
        is("book(400, 7), the least", far.book(400, 7), ZERO - 990);
    }

    static void term2ThickIs0To20() {
        laidOf("kl;c0;", NONE, 1);
        laidOf("kl;c20;", NONE, 1);
        laidOf("kl;c21;", 3, 0);
        laidOf("kl;c200;", 3, 0);
        is("count(2), the least", Made.laid("kl;c0;").count(2), 0);
        is("count(2), the most", Made.laid("kl;c20;").count(2), 20);
    }

    static void term2SpoiledAreNoneWhenLaid() {
        FoldedPages x = Made.laid("kl;n9;");
        x.spoil(0, 1);
        x.spoil(2, 1);
        is("lay() of the same", x.lay(), 1);
        is("count(4)", x.count(4), 0);
        is("missing(-1)", x.missing(-1), 0);
        is("sheet(0, 1)", x.sheet(0, 1), 0);
        is("sheet(2, 1)", x.sheet(2, 1), 0);
    }

    static void term2SpoiledAreNoneByEachChangeButSpoil() {
        Scene.Call[] changes = {x -> x.tell(0, 10), x -> x.tell(1, 3), x -> x.tell(2, 1), x -> x.price(0, 11), x -> x.price(1, 99), x -> x.folds(1)};
        for (int i = 0; i < changes.length; i++) {
            FoldedPages x = Made.laid("kl;krrrr;n9;");
            Made.writeAnew(x, "ttbr");
            x.spoil(0, 1);
            x.spoil(1, 1);
            x.spoil(2, 1);
            is("spoil(1, 0) leaves the others", x.spoil(1, 0), 2);
            DUE.holds("change " + i + " is made", changes[i].on(x) >= 0);
            is("count(4) behind change " + i, x.count(4), 0);
            is("missing(-1) behind change " + i, x.missing(-1), 0);
            is("undo()", x.undo(), 4);
            is("count(4), as ahead of it", x.count(4), 2);
            is("sheet(1, 1), as ahead of it", x.sheet(1, 1), 0);
            is("missing(-1), as ahead of it", x.missing(-1), 5);
        }
    }

    static void term2AllSheetsSpoiled() {
        FoldedPages x = Made.laid("kl;n398;");
        for (int j = 0; j < 100; j++) {
            is("spoil(" + j + ", 1)", x.spoil(j, 1), j + 1);
        }
        is("spoil(100, 1)", x.spoil(100, 1), BAD);
        is("count(4)", x.count(4), 100);
        is("missing(-1)", x.missing(-1), 398);
        is("missing(-2)", x.missing(-2), 1);
        is("missing(0)", x.missing(0), 1);
        is("missing(397)", x.missing(397), 398);
        is("missing(398)", x.missing(398), NONE);
        is("book(398, 8)", x.book(398, 8), 1);
        is("book(399, 8)", x.book(399, 8), 0);
    }

    // ======== 3: THE TEXT

    static void term3TheTextHas200LettersAtMost() {
        String just = "krl;" + "n12;".repeat(49);
        FoldedPages x = Made.written(just);
        is("count(6)", x.count(6), 200);
        is("write(';')", x.write(';'), FULL);
        is("fault()", x.fault(), NONE);
        is("lay()", x.lay(), 1);
        is("count(1)", x.count(1), 12);
        is("wipe()", x.wipe(), 200);
        is("write behind it", x.write('k'), 1);
    }

    static void term3WhatIsWrittenToAFullTextIsLost() {
        FoldedPages x = Made.written("krl;" + "n12;".repeat(48) + "n123;");
        is("count(6)", x.count(6), 200);
        is("fault(): the last item has no ;", x.fault(), 196);
        is("lay()", x.lay(), NO);
        faultOf("kl;" + "n12;".repeat(49) + "n1;", 199);
        faultOf("kl;" + "n12;".repeat(49) + ";", 199);
        faultOf("kl;" + "n12;".repeat(48) + "n123;", NONE);
        faultOf("kl;" + "n12;".repeat(48) + "n1234;", 195);
    }

    static void term3TheEmptyText() {
        FoldedPages x = new FoldedPages();
        is("count(6)", x.count(6), 0);
        is("fault()", x.fault(), NONE);
        is("lay()", x.lay(), NO);
        is("folds(0)", x.folds(0), NO);
        is("wipe()", x.wipe(), 0);
    }

    static void term3ASemicolonIsBehindEachItem() {
        faultOf("kl", 0);
        faultOf("kl;n9", 3);
        faultOf("kl;n", 3);
        faultOf("kl;;", 3);
        faultOf(";", 0);
        faultOf("kl n9;", 0);
        faultOf("kl;n9;;", 6);
        faultOf("kl;n9; ", 6);
        faultOf("kl;n9;", NONE);
    }

    static void term3NumbersHaveOneToThreeFigures() {
        for (String ahead : new String[] {"n", "c", "m", "p0,"}) {
            laidOf("kl;" + ahead + ";", 3, 0);
            laidOf("kl;" + ahead + "1;", NONE, 1);
            laidOf("kl;" + ahead + "01;", NONE, 1);
            laidOf("kl;" + ahead + "001;", NONE, 1);
            laidOf("kl;" + ahead + "0001;", 3, 0);
            laidOf("kl;" + ahead + "1 ;", 3, 0);
            laidOf("kl;" + ahead + " 1;", 3, 0);
            laidOf("kl;" + ahead + "+1;", 3, 0);
            laidOf("kl;" + ahead + "-1;", 3, 0);
            laidOf("kl;" + ahead + "1.;", 3, 0);
            laidOf("kl;" + ahead + "/;", 3, 0);
            laidOf("kl;" + ahead + ":;", 3, 0);
        }
        laidOf("kl;p,1;", 3, 0);
        laidOf("kl;p0,1;", NONE, 1);
        laidOf("kl;p00,1;", NONE, 1);
        laidOf("kl;p000,1;", NONE, 1);
        laidOf("kl;p0000,1;", 3, 0);
        laidOf("kl;p/,1;", 3, 0);
        laidOf("kl;p:,1;", 3, 0);
        laidOf("kl;n4294967297;", 3, 0);
        laidOf("kl;n9;m9999999999;", 6, 0);
    }

    static void term3ThePriceIsOfASchemeToldAhead() {
        laidOf("p0,1;kl;", 0, 0);
        laidOf("kl;p0,1;", NONE, 1);
        laidOf("kl;p1,1;kl;", 3, 0);
        laidOf("kl;kl;p1,1;", NONE, 2);
        laidOf("kl;kl;kl;kl;p3,1;", NONE, 4);
        laidOf("kl;kl;kl;kl;p4,1;", 12, 0);
        laidOf("kl;kl;kl;kl;p999,1;", 12, 0);
        laidOf("kl;kl;kl;kl;p256,1;", 12, 0);
    }

    static void term3ThePriceIs0To99And10Without() {
        laidOf("kl;p0,0;", NONE, 1);
        laidOf("kl;p0,99;", NONE, 1);
        laidOf("kl;p0,099;", NONE, 1);
        laidOf("kl;p0,100;", 3, 0);
        laidOf("kl;p0,999;", 3, 0);
        FoldedPages x = Made.laid("kl;kl;kl;p0,0;p2,99;");
        is("scheme(0, 4)", x.scheme(0, 4), 0);
        is("scheme(1, 4)", x.scheme(1, 4), 10);
        is("scheme(2, 4)", x.scheme(2, 4), 99);
    }

    static void term3APriceHasOneComma() {
        faultOf("kl;p;", 3);
        faultOf("kl;p0;", 3);
        faultOf("kl;p,;", 3);
        faultOf("kl;p0,;", 3);
        faultOf("kl;p0,,1;", 3);
        faultOf("kl;p0,1,;", 3);
        faultOf("kl;p0,1,1;", 3);
        faultOf("kl;n1,1;", 3);
    }

    static void term3OfSeveralTheLastOneCounts() {
        FoldedPages x = Made.laid("kl;kr;p0,1;p1,2;n399;c19;m1;p0,99;p0,3;n1;n400;n7;c0;c20;c5;m1;m0;");
        counts(x, 2, 7, 5, 0, 0, 0, 66);
        is("scheme(0, 4)", x.scheme(0, 4), 3);
        is("scheme(1, 4)", x.scheme(1, 4), 2);
        laidOf("kl;n0;n9;", 3, 0);
        laidOf("kl;c21;c2;", 3, 0);
        laidOf("kl;m2;m0;", 3, 0);
        laidOf("kl;p0,100;p0,1;", 3, 0);
    }

    static void term3WithoutThem16And2And0() {
        counts(Made.laid("krr;"), 1, 16, 2, 0, 0, 0, 4);
        FoldedPages x = Made.laid("kl;kl;kl;kl;n300;c9;m1;p3,5;");
        Made.writeAnew(x, "kl;kl;kl;kl;");
        is("lay() anew", x.lay(), 4);
        counts(x, 4, 16, 2, 0, 0, 0, 12);
        is("scheme(3, 4)", x.scheme(3, 4), 10);
    }

    static void term3TheModeIs0Or1() {
        laidOf("kl;m0;", NONE, 1);
        laidOf("kl;m1;", NONE, 1);
        laidOf("kl;m2;", 3, 0);
        laidOf("kl;m10;", 3, 0);
        is("count(3) of m0", Made.laid("kl;m1;m0;").count(3), 0);
        is("count(3) of m001", Made.laid("kl;m001;").count(3), 1);
    }

    static void term3OtherLettersAreNoItems() {
        for (int letter = 32; letter <= 126; letter++) {
            boolean item = letter == 'n' || letter == 'c' || letter == 'm';
            faultOf("kl;" + (char) letter + "1;", item ? NONE : 3);
        }
    }

    static void term3TheFaultIsTheFirstLetterOfTheFirstWrongItem() {
        faultOf("x;kl;y;", 0);
        faultOf("kl;n9;x;c99;", 6);
        faultOf("kl;n9;c9;m1;p0,9;kt;k;", 17);
        faultOf("n401;kl", 0);
    }

    static void term3LaidIsATextWithAScheme() {
        laidOf("", NONE, 0);
        laidOf("n9;", NONE, 0);
        laidOf("n9;c1;m1;", NONE, 0);
        laidOf("n9;c1;m1;kl;", NONE, 1);
    }

    static void term3AtFirstThisIsLaid() {
        FoldedPages x = new FoldedPages();
        FoldedPages y = Made.laid("kl;krbl;ktr;n30;p1,14;");
        for (int what = 0; what < 6; what++) {
            is("count(" + what + ")", x.count(what), y.count(what));
            for (int k = 0; k < 4; k++) {
                is("scheme(" + k + ", " + what + ")", x.scheme(k, what), y.scheme(k, what));
                is("fold(" + k + ", " + what + ")", x.fold(k, what), y.fold(k, what));
            }
        }
        is("count(6): THE TEXT is empty", x.count(6), 0);
    }

    static void term3TheTextStaysWhenLaid() {
        FoldedPages x = Made.laid("kr;n9;");
        is("count(6)", x.count(6), 6);
        Made.write(x, "c7;");
        is("lay() of more", x.lay(), 1);
        counts(x, 1, 9, 7, 0, 0, 0, 9);
    }

    static void term3TheLatest6ChangesCanBeUndone() {
        for (int changes = 0; changes <= 20; changes++) {
            FoldedPages x = Made.laid("kl;n100;");
            for (int i = 1; i <= changes; i++) {
                is("tell(0, " + (100 + i) + ")", x.tell(0, 100 + i), 99 + i);
                is("count(5)", x.count(5), Math.min(6, i));
            }
            int can = Math.min(6, changes);
            for (int i = 1; i <= can; i++) {
                is("undo(), the " + i + "-th of " + changes, x.undo(), can - i);
                is("count(1)", x.count(1), 100 + changes - i);
            }
            is("undo(), one more than can be", x.undo(), NO);
            is("count(1), the same", x.count(1), 100 + changes - can);
        }
    }

    static void term3ChangesBehindUndoneOnes() {
        FoldedPages x = Made.laid("kl;n100;");
        for (int i = 1; i <= 8; i++) {
            x.tell(0, 100 + i);
        }
        is("undo()", x.undo(), 5);
        is("undo()", x.undo(), 4);
        is("undo()", x.undo(), 3);
        for (int i = 1; i <= 4; i++) {
            x.tell(0, 200 + i);
        }
        is("count(5)", x.count(5), 6);
        int[] due = {203, 202, 201, 105, 104, 103};
        for (int i = 0; i < 6; i++) {
            is("undo()", x.undo(), 5 - i);
            is("count(1)", x.count(1), due[i]);
        }
        is("undo()", x.undo(), NO);
    }

    static void term3EachKindOfChangeCanBeUndone() {
        FoldedPages x = Made.laid("kl;ktr;n9;");
        Made.writeAnew(x, "rrrr");
        is("tell(0, 400)", x.tell(0, 400), 9);
        is("tell(1, 20)", x.tell(1, 20), 2);
        is("tell(2, 1)", x.tell(2, 1), 0);
        is("price(1, 0)", x.price(1, 0), 10);
        is("folds(0)", x.folds(0), 4);
        is("spoil(49, 1)", x.spoil(49, 1), 1);
        is("undo() of spoil", x.undo(), 5);
        is("count(4)", x.count(4), 0);
        is("undo() of folds", x.undo(), 4);
        is("scheme(0, 0)", x.scheme(0, 0), 1);
        is("page(0, 0, 2, 0)", x.page(0, 0, 2, 0), BAD);
        is("undo() of the price", x.undo(), 3);
        is("scheme(1, 4)", x.scheme(1, 4), 10);
        is("undo() of the mode", x.undo(), 2);
        is("count(3)", x.count(3), 0);
        is("undo() of THICK", x.undo(), 1);
        is("count(2)", x.count(2), 2);
        is("undo() of N", x.undo(), 0);
        is("count(1)", x.count(1), 9);
        is("plan(3)", x.plan(3), 12);
        is("count(6): THE TEXT stays", x.count(6), 4);
    }

    static void term3BehindLaidNoneCanBeUndone() {
        FoldedPages x = Made.laid("kl;n9;");
        x.tell(0, 8);
        x.spoil(0, 1);
        is("count(5)", x.count(5), 2);
        is("lay()", x.lay(), 1);
        is("count(5) behind lay()", x.count(5), 0);
        is("undo()", x.undo(), NO);
        is("count(1)", x.count(1), 9);
    }

    static void term3ALayThatIsRefusedKeepsTheChanges() {
        FoldedPages x = Made.laid("kl;n9;");
        x.tell(0, 8);
        x.spoil(1, 1);
        x.write('x');
        is("lay()", x.lay(), NO);
        is("count(5)", x.count(5), 2);
        is("count(4)", x.count(4), 1);
        is("undo()", x.undo(), 1);
        is("undo()", x.undo(), 0);
        is("count(1)", x.count(1), 9);
    }

    static void term3UndoneIsSpoiledAsAheadOfIt() {
        FoldedPages x = Made.laid("kl;n400;");
        x.spoil(99, 1);
        x.spoil(0, 1);
        is("tell(0, 1)", x.tell(0, 1), 400);
        is("spoil(99, 1), which is none now", x.spoil(99, 1), BAD);
        is("spoil(0, 1)", x.spoil(0, 1), 1);
        is("undo() of spoil", x.undo(), 3);
        is("count(4)", x.count(4), 0);
        is("undo() of N", x.undo(), 2);
        is("count(4)", x.count(4), 2);
        is("missing(7)", x.missing(7), 400);
        is("undo() of spoil", x.undo(), 1);
        is("sheet(0, 1)", x.sheet(0, 1), 0);
        is("sheet(99, 1)", x.sheet(99, 1), 1);
        is("undo() of spoil", x.undo(), 0);
        is("count(4)", x.count(4), 0);
    }

    static void anObjectAnswers512Calls() {
        FoldedPages x = new FoldedPages();
        for (int i = 1; i <= 510; i++) {
            is("tell, call " + i, x.tell(0, i % 400 + 1), i == 1 ? 30 : (i - 1) % 400 + 1);
        }
        is("undo(), call 511", x.undo(), 5);
        is("count(1), call 512", x.count(1), 110);
    }

    // ======== the promises' own bounds

    static void promise2WriteTellsHowLongTheTextIs() {
        FoldedPages x = new FoldedPages();
        for (int i = 1; i <= 200; i++) {
            is("write, letter " + i, x.write(32 + i % 95), i);
        }
        is("write, letter 201", x.write(32), FULL);
        is("count(6)", x.count(6), 200);
        x.wipe();
        is("write(32)", x.write(32), 1);
        is("write(126)", x.write(126), 2);
        for (int letter : new int[] {31, 127, 0, -1, LOW, HIGH, 256 + 'k', 65536 + 'k', 'k' - 65536}) {
            is("write(" + letter + ")", x.write(letter), BAD);
        }
        is("count(6)", x.count(6), 2);
    }

    static void promise3WipeTellsHowLongItWas() {
        for (int many : new int[] {0, 1, 199, 200, 201}) {
            FoldedPages x = Made.written("k".repeat(many));
            is("wipe() of " + many, x.wipe(), Math.min(200, many));
            is("wipe() again", x.wipe(), 0);
            is("fault()", x.fault(), NONE);
        }
    }

    static void promise6TellTheLeastAndTheMost() {
        int[] first = {30, 2, 0};
        int[] least = {1, 0, 0};
        int[] most = {400, 20, 1};
        for (int what = 0; what < 3; what++) {
            FoldedPages x = new FoldedPages();
            is("tell(" + what + "), the most", x.tell(what, most[what]), first[what]);
            is("one more", x.tell(what, most[what] + 1), BAD);
            is("count", x.count(1 + what), most[what]);
            is("tell(" + what + "), the least", x.tell(what, least[what]), most[what]);
            is("one less", x.tell(what, least[what] - 1), BAD);
            is("count", x.count(1 + what), least[what]);
            is("the same", x.tell(what, least[what]), NO);
            is("count(5)", x.count(5), 2);
        }
    }

    static void promise7PriceTheLeastAndTheMost() {
        FoldedPages x = Made.laid("kl;kl;kl;kl;");
        for (int k = 0; k < 4; k += 3) {
            is("price(" + k + ", 99)", x.price(k, 99), 10);
            is("price(" + k + ", 100)", x.price(k, 100), BAD);
            is("price(" + k + ", 0)", x.price(k, 0), 99);
            is("price(" + k + ", -1)", x.price(k, -1), BAD);
            is("price(" + k + ", 0) again", x.price(k, 0), NO);
            is("scheme(" + k + ", 4)", x.scheme(k, 4), 0);
        }
    }

    static void promise8FoldsAre1To4Letters() {
        FoldedPages x = Made.laid("kl;kl;kl;ktl;");
        String[] texts = {"r", "br", "tbl", "lllr"};
        for (int i = 0; i < texts.length; i++) {
            Made.writeAnew(x, texts[i]);
            is("folds(3) of " + texts[i], x.folds(3), i + 1);
            is("scheme(3, 0)", x.scheme(3, 0), i + 1);
            is("fold(3, " + i + ")", x.fold(3, i), texts[i].charAt(i));
            is("folds(3) again", x.folds(3), NO);
            is("folds(4)", x.folds(4), BAD);
        }
        Made.writeAnew(x, "lllrr");
        is("folds(3) of five", x.folds(3), NO);
        x.wipe();
        is("folds(3) of none", x.folds(3), NO);
        is("count(5)", x.count(5), 4);
    }

    /** Texts that are alike, or whose figures are the same number, are other folds all the same. */
    static void promise8FoldsAreTheseOnlyLetterByLetter() {
        String[] texts = {"l", "bl", "bbl", "bbbl", "bbbr", "br", "r"};
        FoldedPages x = Made.laid("ktl;");
        for (String text : texts) {
            Made.writeAnew(x, text);
            is("folds(0) of " + text, x.folds(0), text.length());
            is("folds(0) of " + text + " again", x.folds(0), NO);
        }
    }

    static void promise9SpoilTellsHowManyAre() {
        FoldedPages x = Made.laid("kl;n400;m1;");
        is("spoil(0, 1)", x.spoil(0, 1), 1);
        is("spoil(99, 1)", x.spoil(99, 1), 2);
        is("spoil(100, 1)", x.spoil(100, 1), BAD);
        is("spoil(-1, 1)", x.spoil(-1, 1), BAD);
        is("spoil(99, 1) again", x.spoil(99, 1), NO);
        is("spoil(99, 0)", x.spoil(99, 0), 1);
        is("spoil(0, 0)", x.spoil(0, 0), 0);
        is("spoil(0, 0) again", x.spoil(0, 0), NO);
        is("count(5)", x.count(5), 4);
    }

    static void promise11SheetsOfASchemeNoneToAHundred() {
        FoldedPages x = Made.laid("kl;krr;n400;p1,21;");
        is("scheme(0, 5)", x.scheme(0, 5), 100);
        is("scheme(1, 5)", x.scheme(1, 5), 0);
        x.price(1, 19);
        is("scheme(0, 5)", x.scheme(0, 5), 0);
        is("scheme(1, 5)", x.scheme(1, 5), 50);
    }

    static void promise12TheFirstAndTheLastFold() {
        FoldedPages x = Made.laid("kbltr;kr;");
        is("fold(0, -1)", x.fold(0, -1), BAD);
        is("fold(0, 0)", x.fold(0, 0), 98);
        is("fold(0, 1)", x.fold(0, 1), 108);
        is("fold(0, 2)", x.fold(0, 2), 116);
        is("fold(0, 3)", x.fold(0, 3), 114);
        is("fold(0, 4)", x.fold(0, 4), BAD);
        is("fold(1, 0)", x.fold(1, 0), 114);
        is("fold(1, 1)", x.fold(1, 1), NONE);
        is("fold(1, 3)", x.fold(1, 3), NONE);
        is("fold(1, 4)", x.fold(1, 4), BAD);
    }

    static void promise13TheCornersOfASheet() {
        FoldedPages x = Made.laid("krrrr;ktttl;");
        is("page(0, 0, 0, 0)", x.page(0, 0, 0, 0), 2);
        is("page(0, 0, 15, 0)", x.page(0, 0, 15, 0), 3);
        is("page(0, 1, 0, 0)", x.page(0, 1, 0, 0), 1);
        is("page(0, 1, 15, 0)", x.page(0, 1, 15, 0), 4);
        is("page(0, 0, 16, 0)", x.page(0, 0, 16, 0), BAD);
        is("page(0, 0, 0, 1)", x.page(0, 0, 0, 1), BAD);
        is("page(1, 0, 0, 7)", x.page(1, 0, 0, 7), 2);
        is("page(1, 1, 0, 7)", x.page(1, 1, 0, 7), 1);
        is("page(1, 0, 1, 7)", x.page(1, 0, 1, 7), 31);
        is("page(1, 1, 1, 7)", x.page(1, 1, 1, 7), 32);
        is("page(1, 0, 0, 0)", x.page(1, 0, 0, 0), 3);
        is("page(1, 1, 1, 0)", x.page(1, 1, 1, 0), 29);
        is("page(1, 0, 2, 0)", x.page(1, 0, 2, 0), BAD);
        is("page(1, 0, 0, 8)", x.page(1, 0, 0, 8), BAD);
    }

    static void promise14NoPageStandsToTheRightOfTheLast() {
        FoldedPages x = Made.laid("krrrr;");
        is("where(0, 3, 5): the last column of the FRONT", x.where(0, 3, 5), NONE);
        is("where(0, 30, 5): the last but one", x.where(0, 30, 5), 3);
        is("where(0, 2, 5): the first", x.where(0, 2, 5), 31);
        is("where(0, 1, 5): the first column of the BACK", x.where(0, 1, 5), NONE);
        is("where(0, 32, 5): the second", x.where(0, 32, 5), 1);
        is("where(0, 4, 5): the last", x.where(0, 4, 5), 29);
    }

    static void promise16TheFirstAndTheLastTexts() {
        FoldedPages x = new FoldedPages();
        is("find(1, 2, 0, 0, 0): l", x.find(1, 2, 0, 0, 0), 1);
        is("find(1, 4, 1, 1, 0): l", x.find(1, 4, 1, 1, 0), 1);
        is("find(1, 5, 1, 1, 0)", x.find(1, 5, 1, 1, 0), BAD);
        is("find(2, 2, 0, 0, 0): bl", x.find(2, 2, 0, 0, 0), 1);
        is("find(2, 2, 0, 0, 1): tl", x.find(2, 2, 0, 0, 1), 13);
        is("find(4, 3, 0, 15, 0): rrrl", x.find(4, 3, 0, 15, 0), 169);
        is("find(4, 3, 0, 16, 0)", x.find(4, 3, 0, 16, 0), BAD);
        is("find(4, 2, 0, 0, 7): tttl", x.find(4, 2, 0, 0, 7), 253);
        is("find(4, 2, 0, 0, 8)", x.find(4, 2, 0, 0, 8), NONE);
        is("find(4, 2, 0, 0, 15)", x.find(4, 2, 0, 0, 15), NONE);
        is("find(4, 2, 0, 0, 16)", x.find(4, 2, 0, 0, 16), BAD);
        is("find(4, 33, 0, 0, 7)", x.find(4, 33, 0, 0, 7), BAD);
    }

    static void promise17And18AlikeAndUnlikeOf1To4Folds() {
        FoldedPages x = Made.laid("kr;kbl;kltr;kttbl;");
        int[] unlike = {1, 4, 16, 64};
        for (int many = 1; many <= 4; many++) {
            is("alike(" + (many - 1) + ")", x.alike(many - 1), 2);
            is("unlike(" + many + ")", x.unlike(many), unlike[many - 1]);
        }
        is("alike(4)", x.alike(4), BAD);
        is("unlike(0)", x.unlike(0), BAD);
        is("unlike(5)", x.unlike(5), BAD);
    }

    static void promise20BlanksOf1To400Pages() {
        FoldedPages x = Made.laid("krrrr;n100;");
        is("blanks(0)", x.blanks(0), BAD);
        is("blanks(1)", x.blanks(1), 31);
        is("blanks(32)", x.blanks(32), 0);
        is("blanks(33)", x.blanks(33), 31);
        is("blanks(384)", x.blanks(384), 0);
        is("blanks(385)", x.blanks(385), 31);
        is("blanks(400)", x.blanks(400), 16);
        is("blanks(401)", x.blanks(401), BAD);
        is("count(1)", x.count(1), 100);
        is("plan(1)", x.plan(1), 28);
        x.price(0, 0);
        is("blanks(385) for nothing", x.blanks(385), 31);
    }

    static void promise21TheFirstAndTheLastPageOfTheBook() {
        FoldedPages x = Made.laid("kl;n5;c1;");
        x.spoil(1, 1);
        int[][] due = {{0, 1, 1, 0, 0, 0, 0, ZERO, 0}, {1, 1, 1, 0, 0, 0, 0, ZERO, 1}, {1, 4, 1, 1, 0, 0, 0, ZERO, 0}};
        int[] pages = {1, 5, 8};
        for (int i = 0; i < pages.length; i++) {
            for (int what = 0; what < 9; what++) {
                is("book(" + pages[i] + ", " + what + ")", x.book(pages[i], what), due[i][what]);
            }
            is("book(" + pages[i] + ", 9)", x.book(pages[i], 9), BAD);
            is("book(" + pages[i] + ", -1)", x.book(pages[i], -1), BAD);
        }
        for (int what = 0; what < 9; what++) {
            is("book(0, " + what + ")", x.book(0, what), BAD);
            is("book(9, " + what + ")", x.book(9, what), BAD);
        }
    }

    static void promise22TheFirstAndTheLastPageOfASheet() {
        FoldedPages x = Made.laid("krrrr;kl;n36;m1;");
        is("number(0, 0)", x.number(0, 0), BAD);
        is("number(0, 1)", x.number(0, 1), 1);
        is("number(0, 16)", x.number(0, 16), 16);
        is("number(0, 17)", x.number(0, 17), 21);
        is("number(0, 32)", x.number(0, 32), 36);
        is("number(0, 33)", x.number(0, 33), BAD);
        is("number(1, 1)", x.number(1, 1), 17);
        is("number(1, 4)", x.number(1, 4), 20);
        is("number(1, 5): told of sheet 0 alone", x.number(1, 5), BAD);
        is("number(2, 1)", x.number(2, 1), BAD);
    }

    static void promise23TheMostBlanksOfASheet() {
        FoldedPages x = Made.laid("krrrr;n1;");
        is("sheet(0, 4)", x.sheet(0, 4), 31);
        is("sheet(0, 2)", x.sheet(0, 2), 1);
        is("sheet(0, 3): a blank one", x.sheet(0, 3), 32);
        x.tell(0, 33);
        is("sheet(0, 4)", x.sheet(0, 4), 0);
        is("sheet(1, 4)", x.sheet(1, 4), 31);
        x.tell(2, 1);
        is("sheet(0, 4), nested: its second half", x.sheet(0, 4), 16);
        is("sheet(1, 4), nested", x.sheet(1, 4), 15);
        x.tell(0, 64);
        is("sheet(0, 4) of a full book", x.sheet(0, 4), 0);
    }

    static void promise24RunsOfMissingPages() {
        FoldedPages x = Made.laid("kl;n400;m1;");
        is("missing(-2) of none", x.missing(-2), 0);
        is("missing(-1) of none", x.missing(-1), 0);
        is("missing(0) of none", x.missing(0), NONE);
        x.spoil(99, 1);
        is("missing(-2): the halves of the last sheet are one run", x.missing(-2), 1);
        is("missing(0)", x.missing(0), 199);
        is("missing(3)", x.missing(3), 202);
        is("missing(4)", x.missing(4), NONE);
        x.spoil(0, 1);
        is("missing(-2): two runs more", x.missing(-2), 3);
        is("missing(0)", x.missing(0), 1);
        is("missing(7)", x.missing(7), 400);
        x.spoil(1, 1);
        is("missing(-2): side by side with sheet 0", x.missing(-2), 3);
        is("missing(HIGH)", x.missing(HIGH), NONE);
        is("missing(-3)", x.missing(-3), BAD);
        is("missing(LOW)", x.missing(LOW), BAD);
    }

    static void promise24TheMostRuns() {
        FoldedPages x = Made.laid("kl;n400;m1;");
        FoldedPages y = Made.laid("kl;n400;");
        for (int j = 0; j < 100; j += 2) {
            x.spoil(j, 1);
            y.spoil(j, 1);
        }
        is("missing(-2), nested", x.missing(-2), 100);
        is("missing(-1), nested", x.missing(-1), 200);
        is("missing(199), nested", x.missing(199), 400);
        is("missing(-2), gathered", y.missing(-2), 50);
        is("missing(199), gathered", y.missing(199), 396);
        is("missing(200), gathered", y.missing(200), NONE);
    }

    static void promise24ARunEndsAtTheLastPageNotAtABlankOne() {
        FoldedPages x = Made.laid("kl;n5;m1;");
        x.spoil(0, 1);
        is("missing(-2): pages 7 and 8 are blank", x.missing(-2), 1);
        is("missing(-1)", x.missing(-1), 2);
        is("missing(1)", x.missing(1), 2);
        is("missing(2)", x.missing(2), NONE);
        x.tell(0, 7);
        x.spoil(0, 1);
        is("missing(-2): page 7 is none of them", x.missing(-2), 2);
        is("missing(2)", x.missing(2), 7);
        is("missing(3)", x.missing(3), NONE);
    }

    static void promise25CountsAtTheirBounds() {
        FoldedPages x = Made.laid("kl;n1;c0;");
        counts(x, 1, 1, 0, 0, 0, 0, 9, BAD, BAD);
        is("count(-1)", x.count(-1), BAD);
        FoldedPages y = Made.laid("kl;kl;kl;kl;n400;c20;m1;" + "m01;".repeat(44));
        for (int j = 0; j < 100; j++) {
            y.spoil(j, 1);
        }
        counts(y, 4, 400, 20, 1, 100, 6, 200, BAD, BAD);
    }
}
