import java.util.ArrayList;
import java.util.HashMap;
import java.util.List;
import java.util.Map;
import java.util.regex.Matcher;
import java.util.regex.Pattern;

/**
 * The document's words done as literally as can be: piles are lists that are turned over, plans are all
 * tried, the pages of the book are one list. It shares no way of working with FoldedPages.
 */
final class Model {
    static final int BAD = -1, NO = -2, FULL = -3, NONE = -4, ZERO = 100000;

    record Place(int side, int c, int r, int over) { }

    record Leaf(int c, int r, int up, int over) {
        Leaf turned(boolean upsideDown) {
            return new Leaf(c, r, 1 - up, upsideDown ? 1 - over : over);
        }
    }

    /** Where each page comes to; place 0 is empty. */
    record Folded(int columns, int rows, List<Place> places) {
        int pages() {
            return places.size() - 1;
        }

        int pageAt(int side, int c, int r) {
            for (int p = 1; p <= pages(); p++) {
                Place at = places.get(p);
                if (at.side == side && at.c == c && at.r == r) {
                    return p;
                }
            }
            return NONE;
        }
    }

    record PageOfBook(int sheet, int page) { }

    record State(List<String> folds, List<Integer> prices, int n, int thick, int mode, List<Integer> spoiled) { }

    private static final Map<String, Folded> FOLDED = new HashMap<>();
    private static final Map<Integer, Integer> UNLIKE = new HashMap<>();

    private final StringBuilder text = new StringBuilder();
    private List<String> folds;
    private List<Integer> prices;
    private int n;
    private int thick;
    private int mode;
    private List<Integer> spoiled;
    private final List<State> history = new ArrayList<>();
    private List<Integer> planOf;
    private List<Integer> schemeOfSheet;
    private List<PageOfBook> bookPages;

    Model() {
        text.append("kl;krbl;ktr;n30;p1,14;");
        lay();
        text.setLength(0);
    }

    // ---- folding

    static List<Leaf> turnedOver(List<Leaf> pile, boolean upsideDown) {
        List<Leaf> over = new ArrayList<>();
        for (int i = pile.size() - 1; i >= 0; i--) {
            over.add(pile.get(i).turned(upsideDown));
        }
        return over;
    }

    static Folded foldedBy(String text) {
        return FOLDED.computeIfAbsent(text, Model::fold);
    }

    /** Piles are told from the lowest leaf up: grid.get(r).get(c). */
    private static Folded fold(String text) {
        int columns = 1;
        int rows = 1;
        for (char f : text.toCharArray()) {
            if (f == 'r' || f == 'l') {
                columns *= 2;
            } else {
                rows *= 2;
            }
        }
        List<List<List<Leaf>>> grid = new ArrayList<>();
        for (int r = 0; r < rows; r++) {
            List<List<Leaf>> line = new ArrayList<>();
            for (int c = 0; c < columns; c++) {
                List<Leaf> pile = new ArrayList<>();
                pile.add(new Leaf(c, r, 0, 0));
                line.add(pile);
            }
            grid.add(line);
        }
        for (char f : text.toCharArray()) {
            grid = foldOnce(grid, f);
        }
        List<Leaf> pile = grid.get(0).get(0);
        if (text.endsWith("r")) {
            pile = turnedOver(pile, false);
        }
        List<Place> places = new ArrayList<>();
        places.add(null);
        for (int i = pile.size() - 1; i >= 0; i--) {
            Leaf leaf = pile.get(i);
            places.add(new Place(leaf.up, leaf.c, leaf.r, leaf.over));
            places.add(new Place(1 - leaf.up, leaf.c, leaf.r, leaf.over));
        }
        return new Folded(columns, rows, places);
    }

    private static List<List<List<Leaf>>> foldOnce(List<List<List<Leaf>>> grid, char f) {
        int high = grid.size();
        int wide = grid.get(0).size();
        boolean across = f == 'r' || f == 'l';
        for (int r = 0; r < high; r++) {
            for (int c = 0; c < wide; c++) {
                boolean goes = f == 'r' && c >= wide / 2 || f == 'l' && c < wide / 2
                        || f == 'b' && r >= high / 2 || f == 't' && r < high / 2;
                if (goes) {
                    int ontoR = across ? r : high - 1 - r;
                    int ontoC = across ? wide - 1 - c : c;
                    grid.get(ontoR).get(ontoC).addAll(turnedOver(grid.get(r).get(c), !across));
                }
            }
        }
        List<List<List<Leaf>>> left = new ArrayList<>();
        for (int r = f == 't' ? high / 2 : 0; r < (f == 'b' ? high / 2 : high); r++) {
            List<List<Leaf>> line = grid.get(r);
            left.add(new ArrayList<>(line.subList(f == 'l' ? wide / 2 : 0, f == 'r' ? wide / 2 : wide)));
        }
        return left;
    }

    /** In the order of letters b, l, r, t. */
    static List<String> textsOf(int n) {
        List<String> texts = new ArrayList<>();
        texts.add("");
        for (int i = 0; i < n; i++) {
            List<String> longer = new ArrayList<>();
            for (String t : texts) {
                for (String f : i == n - 1 ? new String[] {"l", "r"} : new String[] {"b", "l", "r", "t"}) {
                    longer.add(t + f);
                }
            }
            texts = longer;
        }
        return texts;
    }

    static boolean areAlike(String one, String other) {
        return one.length() == other.length() && foldedBy(one).places().equals(foldedBy(other).places());
    }

    // ---- the plan

    private int pagesOf(int k) {
        return 2 << folds.get(k).length();
    }

    /** All ways to make just so many pages of schemes k and above; the first is that with the most of each. */
    private void waysFor(int pages, int k, List<Integer> soFar, List<List<Integer>> ways) {
        if (k == folds.size() - 1) {
            if (pages % pagesOf(k) == 0) {
                List<Integer> way = new ArrayList<>(soFar);
                way.add(pages / pagesOf(k));
                ways.add(way);
            }
            return;
        }
        for (int many = pages / pagesOf(k); many >= 0; many--) {
            soFar.add(many);
            waysFor(pages - many * pagesOf(k), k + 1, soFar, ways);
            soFar.remove(soFar.size() - 1);
        }
    }

    private int priceOf(List<Integer> way) {
        int sum = 0;
        for (int k = 0; k < way.size(); k++) {
            sum += way.get(k) * prices.get(k);
        }
        return sum;
    }

    private boolean canMake(int pages, int k) {
        if (pages == 0) {
            return true;
        }
        if (k == folds.size() || pages < 0) {
            return false;
        }
        for (int many = 0; many * pagesOf(k) <= pages; many++) {
            if (canMake(pages - many * pagesOf(k), k + 1)) {
                return true;
            }
        }
        return false;
    }

    private int fewestFor(int pages) {
        int total = pages;
        while (!canMake(total, 0)) {
            total++;
        }
        return total;
    }

    private void settle() {
        int total = fewestFor(n);
        List<List<Integer>> ways = new ArrayList<>();
        waysFor(total, 0, new ArrayList<>(), ways);
        planOf = ways.get(0);
        for (List<Integer> way : ways) {
            if (priceOf(way) < priceOf(planOf)) {
                planOf = way;
            }
        }
        schemeOfSheet = new ArrayList<>();
        for (int k = 0; k < planOf.size(); k++) {
            for (int i = 0; i < planOf.get(k); i++) {
                schemeOfSheet.add(k);
            }
        }
        bookPages = new ArrayList<>();
        bookPages.add(null);
        for (int j = 0; j < schemeOfSheet.size(); j++) {
            int many = pagesOf(schemeOfSheet.get(j));
            addPages(j, 1, mode == 0 ? many : many / 2);
        }
        for (int j = schemeOfSheet.size() - 1; mode == 1 && j >= 0; j--) {
            int many = pagesOf(schemeOfSheet.get(j));
            addPages(j, many / 2 + 1, many);
        }
    }

    private void addPages(int j, int from, int to) {
        for (int p = from; p <= to; p++) {
            bookPages.add(new PageOfBook(j, p));
        }
    }

    // ---- told

    int write(int letter) {
        if (letter < 32 || letter > 126) {
            return BAD;
        }
        if (text.length() == 200) {
            return FULL;
        }
        text.append((char) letter);
        return text.length();
    }

    int wipe() {
        int was = text.length();
        text.setLength(0);
        return was;
    }

    private static final Pattern ITEM = Pattern.compile(
            "k([rltb]{0,3}[rl]);|p([0-9]{1,3}),([0-9]{1,3});|([ncm])([0-9]{1,3});");

    /** Reads into these lists and numbers {n, thick, mode}; answers the fault. */
    private int read(List<String> toFolds, List<Integer> toPrices, int[] numbers) {
        numbers[0] = 16;
        numbers[1] = 2;
        numbers[2] = 0;
        Matcher item = ITEM.matcher(text);
        int at = 0;
        while (at < text.length()) {
            item.region(at, text.length());
            if (!item.lookingAt()) {
                return at;
            }
            if (item.group(1) != null) {
                if (toFolds.size() == 4) {
                    return at;
                }
                toFolds.add(item.group(1));
                toPrices.add(10);
            } else if (item.group(2) != null) {
                int k = Integer.parseInt(item.group(2));
                int v = Integer.parseInt(item.group(3));
                if (k >= toFolds.size() || v > 99) {
                    return at;
                }
                toPrices.set(k, v);
            } else {
                int v = Integer.parseInt(item.group(5));
                int what = "ncm".indexOf(item.group(4));
                if (!isInRange(what, v)) {
                    return at;
                }
                numbers[what] = v;
            }
            at = item.end();
        }
        return NONE;
    }

    private static boolean isInRange(int what, int v) {
        return what == 0 && v >= 1 && v <= 400 || what == 1 && v >= 0 && v <= 20 || what == 2 && v >= 0 && v <= 1;
    }

    int fault() {
        return read(new ArrayList<>(), new ArrayList<>(), new int[3]);
    }

    int lay() {
        List<String> toFolds = new ArrayList<>();
        List<Integer> toPrices = new ArrayList<>();
        int[] numbers = new int[3];
        if (read(toFolds, toPrices, numbers) != NONE || toFolds.isEmpty()) {
            return NO;
        }
        folds = toFolds;
        prices = toPrices;
        n = numbers[0];
        thick = numbers[1];
        mode = numbers[2];
        spoiled = new ArrayList<>();
        history.clear();
        settle();
        return folds.size();
    }

    private void keep() {
        history.add(new State(new ArrayList<>(folds), new ArrayList<>(prices), n, thick, mode, new ArrayList<>(spoiled)));
        if (history.size() > 6) {
            history.remove(0);
        }
    }

    int tell(int what, int v) {
        if (!isInRange(what, v)) {
            return BAD;
        }
        int was = what == 0 ? n : what == 1 ? thick : mode;
        if (was == v) {
            return NO;
        }
        keep();
        if (what == 0) {
            n = v;
        } else if (what == 1) {
            thick = v;
        } else {
            mode = v;
        }
        spoiled.clear();
        settle();
        return was;
    }

    private boolean noScheme(int k) {
        return k < 0 || k >= folds.size();
    }

    int price(int k, int v) {
        if (noScheme(k) || v < 0 || v > 99) {
            return BAD;
        }
        int was = prices.get(k);
        if (was == v) {
            return NO;
        }
        keep();
        prices.set(k, v);
        spoiled.clear();
        settle();
        return was;
    }

    int folds(int k) {
        if (noScheme(k)) {
            return BAD;
        }
        String t = text.toString();
        if (!t.matches("[rltb]{0,3}[rl]") || t.equals(folds.get(k))) {
            return NO;
        }
        keep();
        folds.set(k, t);
        spoiled.clear();
        settle();
        return t.length();
    }

    private boolean noSheet(int j) {
        return j < 0 || j >= schemeOfSheet.size();
    }

    int spoil(int sheet, int is) {
        if (noSheet(sheet) || is != 0 && is != 1) {
            return BAD;
        }
        if (spoiled.contains(sheet) == (is == 1)) {
            return NO;
        }
        keep();
        if (is == 1) {
            spoiled.add(sheet);
        } else {
            spoiled.remove(Integer.valueOf(sheet));
        }
        return spoiled.size();
    }

    int undo() {
        if (history.isEmpty()) {
            return NO;
        }
        State was = history.remove(history.size() - 1);
        folds = was.folds;
        prices = was.prices;
        n = was.n;
        thick = was.thick;
        mode = was.mode;
        spoiled = was.spoiled;
        settle();
        return history.size();
    }

    // ---- sheets

    int scheme(int k, int what) {
        if (noScheme(k) || what < 0 || what > 5) {
            return BAD;
        }
        Folded f = foldedBy(folds.get(k));
        return new int[] {folds.get(k).length(), f.columns, f.rows, f.pages(), prices.get(k), planOf.get(k)}[what];
    }

    int fold(int k, int i) {
        if (noScheme(k) || i < 0 || i > 3) {
            return BAD;
        }
        return i < folds.get(k).length() ? folds.get(k).charAt(i) : NONE;
    }

    int page(int k, int side, int c, int r) {
        if (noScheme(k)) {
            return BAD;
        }
        int page = foldedBy(folds.get(k)).pageAt(side, c, r);
        return page == NONE ? BAD : page;
    }

    int where(int k, int page, int what) {
        if (noScheme(k) || page < 1 || page > pagesOf(k) || what < 0 || what > 5) {
            return BAD;
        }
        Folded f = foldedBy(folds.get(k));
        Place at = f.places.get(page);
        int other = f.pageAt(1 - at.side, at.c, at.r);
        int right = f.pageAt(at.side, at.side == 0 ? at.c + 1 : at.c - 1, at.r);
        return new int[] {at.side, at.c, at.r, at.over, other, right}[what];
    }

    int turned(int k, int side) {
        if (noScheme(k) || side != 0 && side != 1) {
            return BAD;
        }
        int many = 0;
        Folded f = foldedBy(folds.get(k));
        for (int p = 1; p <= f.pages(); p++) {
            many += f.places.get(p).side == side ? f.places.get(p).over : 0;
        }
        return many;
    }

    // ---- folds

    int find(int count, int page, int side, int c, int r) {
        if (count < 1 || count > 4 || page < 1 || page > 2 * Math.pow(2, count) || side != 0 && side != 1
                || c < 0 || c > 15 || r < 0 || r > 15) {
            return BAD;
        }
        for (String t : textsOf(count)) {
            Place at = foldedBy(t).places.get(page);
            if (at.side == side && at.c == c && at.r == r) {
                return Integer.parseInt(t.replace('b', '0').replace('l', '1').replace('r', '2').replace('t', '3'), 4);
            }
        }
        return NONE;
    }

    int alike(int k) {
        if (noScheme(k)) {
            return BAD;
        }
        int many = 0;
        for (String t : textsOf(folds.get(k).length())) {
            many += areAlike(t, folds.get(k)) ? 1 : 0;
        }
        return many;
    }

    int unlike(int count) {
        if (count < 1 || count > 4) {
            return BAD;
        }
        return UNLIKE.computeIfAbsent(count, Model::countUnlike);
    }

    private static int countUnlike(int count) {
        List<String> kinds = new ArrayList<>();
        for (String t : textsOf(count)) {
            boolean is = false;
            for (String other : kinds) {
                is |= areAlike(t, other);
            }
            if (!is) {
                kinds.add(t);
            }
        }
        return kinds.size();
    }

    // ---- the book

    int plan(int what) {
        if (what < 0 || what > 3) {
            return BAD;
        }
        int total = bookPages.size() - 1;
        return new int[] {schemeOfSheet.size(), total - n, priceOf(planOf), total}[what];
    }

    int blanks(int pages) {
        return pages < 1 || pages > 400 ? BAD : fewestFor(pages) - pages;
    }

    private int outOf(int b) {
        PageOfBook at = bookPages.get(b);
        int leaves = pagesOf(schemeOfSheet.get(at.sheet)) / 2;
        int leaf = (at.page + 1) / 2;
        int out = 0;
        for (int other = 1; other <= leaves; other++) {
            boolean sameHalf = other <= leaves / 2 == leaf <= leaves / 2;
            if (sameHalf && (leaf <= leaves / 2 ? other < leaf : other > leaf)) {
                out++;
            }
        }
        for (int j = 0; mode == 1 && j < at.sheet; j++) {
            out += pagesOf(schemeOfSheet.get(j)) / 2 / 2;
        }
        return out;
    }

    private int movedOf(int b) {
        int most = 0;
        for (int other = 1; other < bookPages.size(); other++) {
            if (mode == 1 || bookPages.get(other).sheet == bookPages.get(b).sheet) {
                most = Math.max(most, outOf(other));
            }
        }
        return thick * outOf(b) - thick * most / 2;
    }

    private boolean isMissing(int b) {
        return b <= n && spoiled.contains(bookPages.get(b).sheet);
    }

    int book(int b, int what) {
        if (b < 1 || b >= bookPages.size() || what < 0 || what > 8) {
            return BAD;
        }
        PageOfBook at = bookPages.get(b);
        Place place = foldedBy(folds.get(schemeOfSheet.get(at.sheet))).places.get(at.page);
        switch (what) {
            case 6: return outOf(b);
            case 7: return movedOf(b) + ZERO;
            case 8: return isMissing(b) ? 1 : 0;
            default: return new int[] {at.sheet, at.page, place.side, place.c, place.r, place.over}[what];
        }
    }

    int number(int sheet, int page) {
        int b = bookPages.indexOf(new PageOfBook(sheet, page));
        return b < 1 ? BAD : b;
    }

    int sheet(int j, int what) {
        if (noSheet(j) || what < 0 || what > 4) {
            return BAD;
        }
        int lowest = 1000;
        int greatest = 0;
        int blank = 0;
        for (int b = 1; b < bookPages.size(); b++) {
            if (bookPages.get(b).sheet == j) {
                lowest = Math.min(lowest, b);
                greatest = b;
                blank += b > n ? 1 : 0;
            }
        }
        return new int[] {schemeOfSheet.get(j), spoiled.contains(j) ? 1 : 0, lowest, greatest, blank}[what];
    }

    int missing(int i) {
        if (i < -2) {
            return BAD;
        }
        List<Integer> all = new ArrayList<>();
        int runs = 0;
        for (int b = 1; b <= n; b++) {
            if (isMissing(b)) {
                if (all.isEmpty() || all.get(all.size() - 1) != b - 1) {
                    runs++;
                }
                all.add(b);
            }
        }
        if (i < 0) {
            return i == -1 ? all.size() : runs;
        }
        return i < all.size() ? all.get(i) : NONE;
    }

    int count(int what) {
        if (what < 0 || what > 6) {
            return BAD;
        }
        return new int[] {folds.size(), n, thick, mode, spoiled.size(), history.size(), text.length()}[what];
    }
}
