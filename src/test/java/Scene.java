import java.util.ArrayList;
import java.util.List;

/**
 * A state of an object, made anew as often as is asked, since an object answers 512 calls only; and all that can be
 * seen of it, so that a call can be shown to change nothing.
 */
final class Scene {
    interface Call {
        int on(FoldedPages x);
    }

    private static final int CALLS = 512;
    private static final int MOST_CALLS_BETWEEN = 3;
    private static final Call NOTHING = x -> 0;

    final String name;
    private final String laid;
    private final List<Call> changes;
    private final String text;
    private final List<Call> asks = new ArrayList<>();
    private final List<Integer> seenAtFirst;

    /** The laid text may be null, then what is laid at first stands; the other text is THE TEXT that stands in the end. */
    Scene(String name, String laid, List<Call> changes, String text) {
        this.name = name;
        this.laid = laid;
        this.changes = changes;
        this.text = text;
        tellAsks(fresh());
        seenAtFirst = seenBehind(NOTHING);
    }

    FoldedPages fresh() {
        FoldedPages x = laid == null ? new FoldedPages() : Made.laid(laid);
        for (Call change : changes) {
            if (change.on(x) < 0) {
                throw new IllegalStateException(name + ": a change is refused");
            }
        }
        if (!text.equals(laid)) {
            Made.writeAnew(x, text);
        }
        return x;
    }

    private int callsToMake() {
        return (laid == null ? 0 : laid.length() + 1) + changes.size() + (text.equals(laid) ? 0 : text.length() + 1);
    }

    /** Whether all that can be seen is the same with and without this call. */
    boolean staysBehind(Call call) {
        return seenBehind(call).equals(seenAtFirst);
    }

    private List<Integer> seenBehind(Call call) {
        List<Integer> seen = new ArrayList<>();
        int each = CALLS - callsToMake() - MOST_CALLS_BETWEEN;
        for (int from = 0; from < asks.size(); from += each) {
            FoldedPages x = madeAnd(call);
            for (Call ask : asks.subList(from, Math.min(asks.size(), from + each))) {
                seen.add(ask.on(x));
            }
        }
        seeChanges(madeAnd(call), seen);
        seeText(madeAnd(call), seen);
        seeFolds(madeAnd(call), seen);
        seeLetters(madeAnd(call), seen);
        return seen;
    }

    private FoldedPages madeAnd(Call call) {
        FoldedPages x = fresh();
        call.on(x);
        return x;
    }

    // ---- what is asked

    private void tellAsks(FoldedPages x) {
        for (int what = 0; what <= 6; what++) {
            int w = what;
            asks.add(y -> y.count(w));
            asks.add(y -> y.plan(w));
        }
        for (int k = 0; k < x.count(0); k++) {
            askScheme(k, x.scheme(k, 1), x.scheme(k, 2), x.scheme(k, 3));
        }
        int sheets = x.plan(0);
        for (int j = 0; j < sheets; j += j < 4 || j + 2 > sheets ? 1 : sheets - j - 1) {
            askSheet(j);
        }
        int n = x.count(1);
        int total = x.plan(3);
        for (int b : new int[] {1, 2, total / 2, total / 2 + 1, n, n + 1, total}) {
            askPage(b);
        }
        for (int i = -2; i <= 6; i++) {
            int at = i;
            asks.add(y -> y.missing(at));
        }
        asks.add(y -> y.blanks(1));
        asks.add(y -> y.blanks(400));
        asks.add(y -> y.unlike(2));
        asks.add(y -> y.find(2, 1, 1, 0, 0));
    }

    private void askScheme(int k, int columns, int rows, int pages) {
        for (int what = 0; what <= 5; what++) {
            int w = what;
            asks.add(y -> y.scheme(k, w));
            asks.add(y -> y.fold(k, w));
            asks.add(y -> y.where(k, 1, w));
            asks.add(y -> y.where(k, pages, w));
        }
        for (int cell = 0; cell < columns * rows; cell++) {
            int c = cell % columns;
            int r = cell / columns;
            asks.add(y -> y.page(k, 0, c, r));
        }
        asks.add(y -> y.turned(k, 0));
        asks.add(y -> y.turned(k, 1));
        asks.add(y -> y.alike(k));
    }

    private void askSheet(int j) {
        for (int what = 0; what <= 4; what++) {
            int w = what;
            asks.add(y -> y.sheet(j, w));
        }
        asks.add(y -> y.number(j, 1));
        asks.add(y -> y.number(j, 4));
    }

    private void askPage(int b) {
        for (int what = 0; what <= 8; what++) {
            int w = what;
            asks.add(y -> y.book(b, w));
        }
    }

    // ---- what later calls answer

    private static void seeChanges(FoldedPages x, List<Integer> seen) {
        for (int i = 0; i < 8; i++) {
            seen.add(x.undo());
            for (int what = 0; what <= 6; what++) {
                seen.add(x.count(what));
            }
            for (int k = 0; k < 4; k++) {
                seen.add(x.scheme(k, 0));
                seen.add(x.scheme(k, 4));
            }
            seen.add(x.plan(2));
            seen.add(x.missing(0));
        }
    }

    /** THE TEXT can't be asked for, but what is laid by it can. */
    private static void seeText(FoldedPages x, List<Integer> seen) {
        seen.add(x.fault());
        seen.add(x.lay());
        for (int what = 0; what <= 6; what++) {
            seen.add(x.count(what));
        }
        for (int k = 0; k < 4; k++) {
            seen.add(x.scheme(k, 4));
            for (int i = 0; i < 4; i++) {
                seen.add(x.fold(k, i));
            }
        }
    }

    private static void seeFolds(FoldedPages x, List<Integer> seen) {
        seen.add(x.folds(0));
        for (int i = 0; i < 4; i++) {
            seen.add(x.fold(0, i));
        }
        seen.add(x.undo());
    }

    private static void seeLetters(FoldedPages x, List<Integer> seen) {
        seen.add(x.write('k'));
        seen.add(x.fault());
        seen.add(x.wipe());
        seen.add(x.wipe());
        seen.add(x.fault());
    }
}
