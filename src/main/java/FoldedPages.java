/** Pages on folded sheets, and the book that is made of them; ../shared/DOC.md says what each call answers. */
public final class FoldedPages {
    public static final int BAD = -1, NO = -2, FULL = -3, NONE = -4, ZERO = 100000;

    private static final int MOST_LETTERS = 200;
    private static final int MOST_SCHEMES = 4;
    private static final int MOST_FOLDS = 4;
    private static final int MOST_LEAVES = 16;
    private static final int MOST_PRICE = 99;
    private static final int FIRST_PRICE = 10;
    private static final int MOST_UNDONE = 6;
    private static final int MOST_FIGURES = 3;
    private static final int MOST_CELL = 15;

    /* N, THICK and the mode stand in one row, in the order in which tell() numbers them. */
    private static final int N = 0, THICK = 1, MODE = 2, NUMBERS = 3;
    private static final String NUMBER_LETTERS = "ncm";
    private static final int[] NUMBER_LEAST = {1, 0, 0};
    private static final int[] NUMBER_MOST = {400, 20, 1};
    private static final int[] NUMBER_FIRST = {16, 2, 0};
    private static final int NESTED = 1;

    /* A text of folds is held as find() tells it: its letters as figures of base 4. */
    private static final String FOLD_LETTERS = "blrt";
    private static final int L = 1, R = 2, T = 3;
    private static final int MOST_TEXTS = 128;

    /* Every sheet has 4, 8, 16 or 32 pages, so plans are weighed in units of 4 pages. */
    private static final int UNIT = 4;
    /* 400 pages are 100 units; a largest sheet has 8, so the least that suffices is below 108. */
    private static final int UNITS = 108;
    private static final int NEVER = -1;
    /* A sheet of one unit lets no page of 400 stay blank, larger ones are fewer. */
    private static final int MOST_SHEETS = 100;
    private static final int MOST_BOOK = UNITS * UNIT;

    private static final String LAID_AT_FIRST = "kl;krbl;ktr;n30;p1,14;";

    private final Text text;
    private final Told now;
    private final Told read;
    private final History history;
    private final Sheet[] sheets;
    private final Kinds kinds;
    private final Plan best;
    private final Book pages;

    public FoldedPages() {
        text = new Text();
        now = new Told();
        read = new Told();
        history = new History();
        sheets = new Sheet[MOST_SCHEMES];
        for (int k = 0; k < MOST_SCHEMES; k++) {
            sheets[k] = new Sheet();
        }
        kinds = new Kinds();
        best = new Plan();
        pages = new Book();
        for (int i = 0; i < LAID_AT_FIRST.length(); i++) {
            text.append(LAID_AT_FIRST.charAt(i));
        }
        layText();
        text.length = 0;
    }

    // ---- told

    public int write(int letter) {
        if (letter < 32 || letter > 126) {
            return BAD;
        }
        if (text.length >= MOST_LETTERS) {
            return FULL;
        }
        text.append((char) letter);
        return text.length;
    }

    public int wipe() {
        int was = text.length;
        text.length = 0;
        return was;
    }

    public int fault() {
        return text.readInto(read);
    }

    public int lay() {
        return layText();
    }

    public int tell(int what, int v) {
        if (what < 0 || what >= NUMBERS || v < NUMBER_LEAST[what] || v > NUMBER_MOST[what]) {
            return BAD;
        }
        int was = now.numbers[what];
        if (was == v) {
            return NO;
        }
        history.keep(now);
        now.numbers[what] = v;
        settleAnew();
        return was;
    }

    public int price(int k, int v) {
        if (!isScheme(k) || v < 0 || v > MOST_PRICE) {
            return BAD;
        }
        int was = now.prices[k];
        if (was == v) {
            return NO;
        }
        history.keep(now);
        now.prices[k] = v;
        settleAnew();
        return was;
    }

    public int folds(int k) {
        if (!isScheme(k)) {
            return BAD;
        }
        int code = text.foldsIn(0, text.length);
        if (code < 0 || (text.length == now.foldCounts[k] && code == now.foldCodes[k])) {
            return NO;
        }
        history.keep(now);
        now.foldCounts[k] = text.length;
        now.foldCodes[k] = code;
        settleAnew();
        return text.length;
    }

    public int spoil(int sheet, int is) {
        if (!isSheet(sheet) || is < 0 || is > 1) {
            return BAD;
        }
        if (now.spoiled[sheet] == is) {
            return NO;
        }
        history.keep(now);
        now.spoiled[sheet] = is;
        return now.spoiledSheets();
    }

    public int undo() {
        if (history.depth == 0) {
            return NO;
        }
        history.bringBack(now);
        settle();
        return history.depth;
    }

    // ---- sheets

    public int scheme(int k, int what) {
        if (!isScheme(k)) {
            return BAD;
        }
        switch (what) {
            case 0: return now.foldCounts[k];
            case 1: return sheets[k].columns;
            case 2: return sheets[k].rows;
            case 3: return now.pagesOf(k);
            case 4: return now.prices[k];
            case 5: return best.sheetsOf[k];
            default: return BAD;
        }
    }

    public int fold(int k, int i) {
        if (!isScheme(k) || i < 0 || i >= MOST_FOLDS) {
            return BAD;
        }
        if (i >= now.foldCounts[k]) {
            return NONE;
        }
        return FOLD_LETTERS.charAt(Sheet.figureAt(now.foldCounts[k], now.foldCodes[k], i));
    }

    public int page(int k, int side, int c, int r) {
        if (!isScheme(k) || !isSide(side) || !sheets[k].hasCell(c, r)) {
            return BAD;
        }
        return sheets[k].pageOn(side, c, r);
    }

    public int where(int k, int page, int what) {
        if (!isScheme(k) || page < 1 || page > now.pagesOf(k)) {
            return BAD;
        }
        Sheet s = sheets[k];
        switch (what) {
            case 0: return s.sideOf(page);
            case 1: return s.columnOf(page);
            case 2: return s.rowOf(page);
            case 3: return s.isOverturned(page);
            case 4: return Sheet.behind(page);
            case 5: return s.rightOf(page);
            default: return BAD;
        }
    }

    public int turned(int k, int side) {
        if (!isScheme(k) || !isSide(side)) {
            return BAD;
        }
        return sheets[k].overturnedLeaves();
    }

    // ---- folds

    public int find(int n, int page, int side, int c, int r) {
        if (!isFoldCount(n) || page < 1 || page > 2 << n || !isSide(side)) {
            return BAD;
        }
        if (c < 0 || c > MOST_CELL || r < 0 || r > MOST_CELL) {
            return BAD;
        }
        return kinds.firstWith(n, page, side, c, r);
    }

    public int alike(int k) {
        if (!isScheme(k)) {
            return BAD;
        }
        return kinds.alikeTo(sheets[k], now.foldCounts[k]);
    }

    public int unlike(int n) {
        if (!isFoldCount(n)) {
            return BAD;
        }
        return kinds.unlikeOnes(n);
    }

    // ---- the book

    public int plan(int what) {
        switch (what) {
            case 0: return pages.sheetCount;
            case 1: return pages.pageCount - now.numbers[N];
            case 2: return best.cost;
            case 3: return pages.pageCount;
            default: return BAD;
        }
    }

    public int blanks(int n) {
        if (n < NUMBER_LEAST[N] || n > NUMBER_MOST[N]) {
            return BAD;
        }
        return best.unitsFor(n) * UNIT - n;
    }

    public int book(int b, int what) {
        if (b < 1 || b > pages.pageCount) {
            return BAD;
        }
        int j = pages.sheetAt[b];
        int page = pages.pageAt[b];
        Sheet s = sheets[pages.schemeOf[j]];
        switch (what) {
            case 0: return j;
            case 1: return page;
            case 2: return s.sideOf(page);
            case 3: return s.columnOf(page);
            case 4: return s.rowOf(page);
            case 5: return s.isOverturned(page);
            case 6: return pages.out(now, j, page);
            case 7: return ZERO + pages.moved(now, j, page);
            case 8: return isMissing(b) ? 1 : 0;
            default: return BAD;
        }
    }

    public int number(int sheet, int page) {
        if (!isSheet(sheet) || page < 1 || page > now.pagesOf(pages.schemeOf[sheet])) {
            return BAD;
        }
        return pages.numberOf(now, sheet, page);
    }

    public int sheet(int j, int what) {
        if (!isSheet(j)) {
            return BAD;
        }
        int k = pages.schemeOf[j];
        switch (what) {
            case 0: return k;
            case 1: return now.spoiled[j];
            case 2: return pages.numberOf(now, j, 1);
            case 3: return pages.numberOf(now, j, now.pagesOf(k));
            case 4: return pages.blanksOn(now, j);
            default: return BAD;
        }
    }

    public int missing(int i) {
        if (i < -2) {
            return BAD;
        }
        if (i == -2) {
            return missingRuns();
        }
        int met = 0;
        for (int b = 1; b <= now.numbers[N]; b++) {
            if (isMissing(b)) {
                if (met == i) {
                    return b;
                }
                met++;
            }
        }
        return i == -1 ? met : NONE;
    }

    public int count(int what) {
        switch (what) {
            case 0: return now.schemes;
            case 1: return now.numbers[N];
            case 2: return now.numbers[THICK];
            case 3: return now.numbers[MODE];
            case 4: return now.spoiledSheets();
            case 5: return history.depth;
            case 6: return text.length;
            default: return BAD;
        }
    }

    private int layText() {
        if (text.readInto(read) != NONE || read.schemes == 0) {
            return NO;
        }
        now.copyFrom(read);
        history.depth = 0;
        settle();
        return now.schemes;
    }

    private void settleAnew() {
        now.unspoil();
        settle();
    }

    /** What follows from all that is told is worked out once a change, since most calls only ask. */
    private void settle() {
        for (int k = 0; k < now.schemes; k++) {
            sheets[k].foldBy(now.foldCounts[k], now.foldCodes[k]);
        }
        best.make(now);
        pages.arrange(now, best);
    }

    private boolean isScheme(int k) {
        return k >= 0 && k < now.schemes;
    }

    private boolean isSheet(int j) {
        return j >= 0 && j < pages.sheetCount;
    }

    private static boolean isSide(int side) {
        return side == 0 || side == 1;
    }

    private static boolean isFoldCount(int n) {
        return n >= 1 && n <= MOST_FOLDS;
    }

    private boolean isMissing(int b) {
        return b >= 1 && b <= now.numbers[N] && now.spoiled[pages.sheetAt[b]] == 1;
    }

    private int missingRuns() {
        int runs = 0;
        for (int b = 1; b <= now.numbers[N]; b++) {
            if (isMissing(b) && !isMissing(b - 1)) {
                runs++;
            }
        }
        return runs;
    }

    /** All that is told of schemes and the book, and which sheets are spoiled: what undo() brings back. */
    private static final class Told {
        int schemes;
        final int[] numbers = new int[NUMBERS];
        final int[] foldCounts = new int[MOST_SCHEMES];
        final int[] foldCodes = new int[MOST_SCHEMES];
        final int[] prices = new int[MOST_SCHEMES];
        final int[] spoiled = new int[MOST_SHEETS];

        void tellNothing() {
            schemes = 0;
            for (int i = 0; i < NUMBERS; i++) {
                numbers[i] = NUMBER_FIRST[i];
            }
            unspoil();
        }

        void unspoil() {
            for (int j = 0; j < MOST_SHEETS; j++) {
                spoiled[j] = 0;
            }
        }

        void copyFrom(Told other) {
            schemes = other.schemes;
            copyRow(other.numbers, numbers);
            copyRow(other.foldCounts, foldCounts);
            copyRow(other.foldCodes, foldCodes);
            copyRow(other.prices, prices);
            copyRow(other.spoiled, spoiled);
        }

        private static void copyRow(int[] from, int[] to) {
            for (int i = 0; i < from.length && i < to.length; i++) {
                to[i] = from[i];
            }
        }

        void addScheme(int folds, int code) {
            if (schemes < MOST_SCHEMES) {
                foldCounts[schemes] = folds;
                foldCodes[schemes] = code;
                prices[schemes] = FIRST_PRICE;
                schemes++;
            }
        }

        int unitsOf(int k) {
            return (2 << foldCounts[k]) / UNIT;
        }

        int pagesOf(int k) {
            return 2 << foldCounts[k];
        }

        int spoiledSheets() {
            int many = 0;
            for (int j = 0; j < MOST_SHEETS; j++) {
                many += spoiled[j];
            }
            return many;
        }
    }

    /** What was told ahead of the latest changes, the oldest first. */
    private static final class History {
        final Told[] kept;
        int depth;

        History() {
            kept = new Told[MOST_UNDONE];
            for (int i = 0; i < MOST_UNDONE; i++) {
                kept[i] = new Told();
            }
        }

        void keep(Told told) {
            if (depth >= MOST_UNDONE) {
                forgetOldest();
            }
            kept[depth].copyFrom(told);
            depth++;
        }

        /** The oldest one's rows are used again for the next, so that no change makes an object. */
        private void forgetOldest() {
            Told oldest = kept[0];
            for (int i = 1; i < MOST_UNDONE; i++) {
                kept[i - 1] = kept[i];
            }
            kept[MOST_UNDONE - 1] = oldest;
            depth = MOST_UNDONE - 1;
        }

        void bringBack(Told told) {
            if (depth > 0) {
                depth--;
                told.copyFrom(kept[depth]);
            }
        }
    }

    /** THE TEXT, and how it is read. */
    private static final class Text {
        final char[] letters = new char[MOST_LETTERS];
        int length;

        void append(char letter) {
            if (length < MOST_LETTERS) {
                letters[length] = letter;
                length++;
            }
        }

        /** Answers the place of the first item that is not so, or NONE. */
        int readInto(Told told) {
            told.tellNothing();
            int from = 0;
            for (int i = 0; i < length; i++) {
                if (letters[i] == ';') {
                    if (!readItem(told, from, i)) {
                        return from;
                    }
                    from = i + 1;
                }
            }
            return from < length ? from : NONE;
        }

        private boolean readItem(Told told, int from, int to) {
            if (from >= to) {
                return false;
            }
            char first = letters[from];
            if (first == 'k') {
                return readScheme(told, from + 1, to);
            }
            if (first == 'p') {
                return readPrice(told, from + 1, to);
            }
            return readNumber(told, NUMBER_LETTERS.indexOf(first), from + 1, to);
        }

        private boolean readScheme(Told told, int from, int to) {
            int code = foldsIn(from, to);
            if (code < 0 || told.schemes >= MOST_SCHEMES) {
                return false;
            }
            told.addScheme(to - from, code);
            return true;
        }

        private boolean readPrice(Told told, int from, int to) {
            int comma = commaIn(from, to);
            if (comma < 0) {
                return false;
            }
            int k = figuresIn(from, comma);
            int v = figuresIn(comma + 1, to);
            if (k < 0 || k >= told.schemes || v < 0 || v > MOST_PRICE) {
                return false;
            }
            told.prices[k] = v;
            return true;
        }

        private boolean readNumber(Told told, int what, int from, int to) {
            if (what < 0 || what >= NUMBERS) {
                return false;
            }
            int v = figuresIn(from, to);
            if (v < NUMBER_LEAST[what] || v > NUMBER_MOST[what]) {
                return false;
            }
            told.numbers[what] = v;
            return true;
        }

        /** Answers -1 where no comma stands from the one place up to ahead of the other. */
        private int commaIn(int from, int to) {
            for (int i = from; i < to; i++) {
                if (letters[i] == ',') {
                    return i;
                }
            }
            return -1;
        }

        /** Answers the number that these letters are, -1 if they are none of one to three figures. */
        private int figuresIn(int from, int to) {
            if (from >= to || to - from > MOST_FIGURES) {
                return -1;
            }
            int v = 0;
            for (int i = from; i < to; i++) {
                if (letters[i] < '0' || letters[i] > '9') {
                    return -1;
                }
                v = 10 * v + letters[i] - '0';
            }
            return v;
        }

        /** Answers the code of the folds that these letters are, -1 if they are no text of folds. */
        int foldsIn(int from, int to) {
            if (from >= to || to - from > MOST_FOLDS) {
                return -1;
            }
            int code = 0;
            for (int i = from; i < to; i++) {
                int figure = FOLD_LETTERS.indexOf(letters[i]);
                if (figure < 0) {
                    return -1;
                }
                code = 4 * code + figure;
            }
            return Sheet.isAcross(Sheet.lastFigure(code)) ? code : -1;
        }
    }

    /** One leaf while its sheet is folded: of its pile only the size and the leaf's height in it count. */
    private static final class Leaf {
        int column;
        int row;
        int columns;
        int rows;
        int size;
        int height;
        int up;
        int over;

        void lieAt(int c, int r, int columnsOfSheet, int rowsOfSheet) {
            column = c;
            row = r;
            columns = columnsOfSheet;
            rows = rowsOfSheet;
            size = 1;
            height = 0;
            up = 0;
            over = 0;
        }

        void takeFold(int figure) {
            boolean across = Sheet.isAcross(figure);
            boolean lowerTurns = figure == L || figure == T;
            int at = across ? column : row;
            int half = (across ? columns : rows) / 2;
            if (lowerTurns == (at < half)) {
                at = 2 * half - 1 - at;
                height = 2 * size - 1 - height;
                up = 1 - up;
                over = across ? over : 1 - over;
            }
            size *= 2;
            stayAt(lowerTurns ? at - half : at, half, across);
        }

        private void stayAt(int at, int half, boolean across) {
            if (across) {
                column = at;
                columns = half;
            } else {
                row = at;
                rows = half;
            }
        }

        void turnPile() {
            height = size - 1 - height;
            up = 1 - up;
        }

        int frontPage() {
            int above = size - 1 - height;
            return 2 * above + 1 + up;
        }
    }

    /** A sheet as it is folded: the page on the front of each cell, and which leaves are upside down. */
    private static final class Sheet {
        int columns = 1;
        int rows = 1;
        int foldsAcross;
        final int[] front = new int[MOST_LEAVES];
        final int[] overturned = new int[MOST_LEAVES];
        final Leaf leaf = new Leaf();

        static int figureAt(int count, int code, int i) {
            return (code >> 2 * (count - 1 - i)) & 3;
        }

        static int lastFigure(int code) {
            return code & 3;
        }

        static boolean isAcross(int figure) {
            return figure == L || figure == R;
        }

        static int behind(int page) {
            return page % 2 == 1 ? page + 1 : page - 1;
        }

        void foldBy(int count, int code) {
            foldsAcross = 0;
            for (int i = 0; i < count; i++) {
                if (isAcross(figureAt(count, code, i))) {
                    foldsAcross++;
                }
            }
            columns = 1 << foldsAcross;
            rows = 1 << (count - foldsAcross);
            for (int cell = 0; cell < leaves(); cell++) {
                leaf.lieAt(columnAt(cell), rowAt(cell), columns, rows);
                foldLeaf(count, code);
                front[cell] = leaf.frontPage();
                overturned[cell] = leaf.over;
            }
        }

        private void foldLeaf(int count, int code) {
            for (int i = 0; i < count; i++) {
                leaf.takeFold(figureAt(count, code, i));
            }
            if (lastFigure(code) == R) {
                leaf.turnPile();
            }
        }

        int leaves() {
            return Math.min(columns * rows, MOST_LEAVES);
        }

        /* The cells stand in one row, so many columns, a power of 2, behind one another. */

        private int cellAt(int c, int r) {
            return (r << foldsAcross) + c;
        }

        private int columnAt(int cell) {
            return cell & (columns - 1);
        }

        private int rowAt(int cell) {
            return cell >> foldsAcross;
        }

        boolean hasCell(int c, int r) {
            return c >= 0 && c < columns && r >= 0 && r < rows;
        }

        int pageOn(int side, int c, int r) {
            int page = front[cellAt(c, r)];
            return side == 0 ? page : behind(page);
        }

        private int cellOf(int page) {
            for (int cell = 0; cell < leaves(); cell++) {
                if (front[cell] == page || front[cell] == behind(page)) {
                    return cell;
                }
            }
            return 0;
        }

        int sideOf(int page) {
            return front[cellOf(page)] == page ? 0 : 1;
        }

        int columnOf(int page) {
            return columnAt(cellOf(page));
        }

        int rowOf(int page) {
            return rowAt(cellOf(page));
        }

        int isOverturned(int page) {
            return overturned[cellOf(page)];
        }

        int rightOf(int page) {
            int side = sideOf(page);
            int c = columnOf(page) + (side == 0 ? 1 : -1);
            int r = rowOf(page);
            return hasCell(c, r) ? pageOn(side, c, r) : NONE;
        }

        int overturnedLeaves() {
            int many = 0;
            for (int cell = 0; cell < leaves(); cell++) {
                many += overturned[cell];
            }
            return many;
        }

        /** Sheets of as many folds are alike if all their marks are the same, cell by cell. */
        int markOf(int cell) {
            return (columns * 64 + front[cell]) * 2 + overturned[cell];
        }
    }

    /** All texts of so many folds: which one does it first, which are alike. */
    private static final class Kinds {
        final Sheet tried = new Sheet();
        final int[] marks = new int[MOST_TEXTS * MOST_LEAVES];

        /** Folds the tried sheet by a text that ends in r or l, and answers whether the text is one. */
        private boolean isTried(int n, int code) {
            if (!Sheet.isAcross(Sheet.lastFigure(code))) {
                return false;
            }
            tried.foldBy(n, code);
            return true;
        }

        private static int codesOf(int n) {
            return 1 << 2 * n;
        }

        int firstWith(int n, int page, int side, int c, int r) {
            for (int code = 0; code < codesOf(n); code++) {
                if (isTried(n, code) && tried.hasCell(c, r) && tried.pageOn(side, c, r) == page) {
                    return code;
                }
            }
            return NONE;
        }

        int alikeTo(Sheet sheet, int n) {
            int many = 0;
            for (int code = 0; code < codesOf(n); code++) {
                if (isTried(n, code) && isTriedAlike(sheet)) {
                    many++;
                }
            }
            return many;
        }

        private boolean isTriedAlike(Sheet sheet) {
            for (int cell = 0; cell < tried.leaves(); cell++) {
                if (tried.markOf(cell) != sheet.markOf(cell)) {
                    return false;
                }
            }
            return true;
        }

        /** The marks of one text of each kind are kept; a text counts if its marks are not kept yet. */
        int unlikeOnes(int n) {
            int many = 0;
            for (int code = 0; code < codesOf(n) && many < MOST_TEXTS; code++) {
                if (isTried(n, code)) {
                    keepMarks(many);
                    if (!isKeptBefore(many)) {
                        many++;
                    }
                }
            }
            return many;
        }

        private void keepMarks(int row) {
            for (int cell = 0; cell < tried.leaves(); cell++) {
                marks[row * MOST_LEAVES + cell] = tried.markOf(cell);
            }
        }

        private boolean isKeptBefore(int row) {
            for (int other = 0; other < row; other++) {
                if (haveSameMarks(other, row)) {
                    return true;
                }
            }
            return false;
        }

        private boolean haveSameMarks(int one, int other) {
            for (int cell = 0; cell < tried.leaves(); cell++) {
                if (marks[one * MOST_LEAVES + cell] != marks[other * MOST_LEAVES + cell]) {
                    return false;
                }
            }
            return true;
        }
    }

    /** How many sheets of each scheme the book has. */
    private static final class Plan {
        /* least[k][u]: the least price of just u units of schemes k and above, NEVER if there is no way. */
        final int[][] least = new int[MOST_SCHEMES + 1][UNITS];
        final int[] sheetsOf = new int[MOST_SCHEMES];
        int cost;

        void make(Told told) {
            weigh(told);
            int units = unitsFor(told.numbers[N]);
            cost = least[0][units];
            choose(told, units);
        }

        private void weigh(Told told) {
            for (int u = 0; u < UNITS; u++) {
                least[told.schemes][u] = u == 0 ? 0 : NEVER;
            }
            for (int k = told.schemes - 1; k >= 0; k--) {
                for (int u = 0; u < UNITS; u++) {
                    least[k][u] = cheaper(least[k + 1][u], withOneOf(told, k, u));
                }
            }
        }

        private int withOneOf(Told told, int k, int u) {
            int rest = u - told.unitsOf(k);
            if (rest < 0 || least[k][rest] == NEVER) {
                return NEVER;
            }
            return least[k][rest] + told.prices[k];
        }

        private static int cheaper(int one, int other) {
            if (one == NEVER) {
                return other;
            }
            return other == NEVER ? one : Math.min(one, other);
        }

        int unitsFor(int n) {
            int u = (n + UNIT - 1) / UNIT;
            while (u < UNITS - 1 && least[0][u] == NEVER) {
                u++;
            }
            return u;
        }

        /** Scheme by scheme the most sheets by which the least price can still be reached. */
        private void choose(Told told, int units) {
            int rest = units;
            for (int k = 0; k < told.schemes; k++) {
                sheetsOf[k] = mostOf(told, k, rest);
                rest -= sheetsOf[k] * told.unitsOf(k);
            }
        }

        private int mostOf(Told told, int k, int units) {
            int size = told.unitsOf(k);
            int most = 0;
            for (int many = 0; many <= units && many * size <= units; many++) {
                int others = least[k + 1][units - many * size];
                if (others != NEVER && others + many * told.prices[k] == least[k][units]) {
                    most = many;
                }
            }
            return most;
        }
    }

    /** The sheets of the book in their order, and which page of which sheet each page of the book is. */
    private static final class Book {
        int sheetCount;
        int pageCount;
        final int[] schemeOf = new int[MOST_SHEETS];
        /* How many pages the sheets of lower numbers have. */
        final int[] pagesAhead = new int[MOST_SHEETS];
        final int[] sheetAt = new int[MOST_BOOK + 1];
        final int[] pageAt = new int[MOST_BOOK + 1];

        void arrange(Told told, Plan plan) {
            sheetCount = 0;
            pageCount = 0;
            for (int k = 0; k < told.schemes; k++) {
                for (int i = 0; i < plan.sheetsOf[k]; i++) {
                    addSheet(k, told.pagesOf(k));
                }
            }
            for (int j = 0; j < sheetCount; j++) {
                placePages(told, j);
            }
        }

        private void addSheet(int k, int many) {
            if (sheetCount < MOST_SHEETS && pageCount + many <= MOST_BOOK) {
                schemeOf[sheetCount] = k;
                pagesAhead[sheetCount] = pageCount;
                sheetCount++;
                pageCount += many;
            }
        }

        private void placePages(Told told, int j) {
            for (int page = 1; page <= told.pagesOf(schemeOf[j]); page++) {
                int b = numberOf(told, j, page);
                if (b >= 1 && b <= MOST_BOOK) {
                    sheetAt[b] = j;
                    pageAt[b] = page;
                }
            }
        }

        int numberOf(Told told, int j, int page) {
            if (told.numbers[MODE] != NESTED) {
                return pagesAhead[j] + page;
            }
            int around = pagesAhead[j] / 2;
            int many = told.pagesOf(schemeOf[j]);
            if (page <= many / 2) {
                return around + page;
            }
            return pageCount - around - (many - page);
        }

        /** A leaf has two pages and half of them lie in a half, so a quarter of the pages are its leaves. */
        int out(Told told, int j, int page) {
            int leaves = told.pagesOf(schemeOf[j]) / 2;
            int leaf = (page - 1) / 2;
            int within = Math.min(leaf, leaves - 1 - leaf);
            return told.numbers[MODE] == NESTED ? within + pagesAhead[j] / 4 : within;
        }

        /** The innermost leaf of a half is the most out, nested that of the last sheet. */
        private int mostOut(Told told, int j) {
            int around = told.numbers[MODE] == NESTED ? pageCount : told.pagesOf(schemeOf[j]);
            return around / 4 - 1;
        }

        int moved(Told told, int j, int page) {
            int thick = told.numbers[THICK];
            return thick * out(told, j, page) - thick * mostOut(told, j) / 2;
        }

        int blanksOn(Told told, int j) {
            int many = 0;
            for (int page = 1; page <= told.pagesOf(schemeOf[j]); page++) {
                if (numberOf(told, j, page) > told.numbers[N]) {
                    many++;
                }
            }
            return many;
        }
    }
}
