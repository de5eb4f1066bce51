import java.util.Random;

/** Long runs of calls, told by a fixed seed, answered by FoldedPages and by the literal Model. */
public final class AgainstModelTest {
    private static final int RUNS = 400;
    private static final int CALLS = 512;

    private final Due due;
    private final Random random;
    private FoldedPages x;
    private Model m;
    private int left;

    private AgainstModelTest(Due due, long seed) {
        this.due = due;
        random = new Random(seed);
    }

    public static void main(String[] args) {
        Due due = new Due();
        for (int run = 0; run < RUNS && due.allRight(); run++) {
            due.part("run " + run);
            new AgainstModelTest(due, 77000L + run).run();
        }
        due.end();
    }

    private void run() {
        x = new FoldedPages();
        m = new Model();
        left = CALLS;
        while (left > 0 && due.allRight()) {
            switch (random.nextInt(10)) {
                case 0: layText(); break;
                case 1: foldAnew(); break;
                case 2: case 3: change(); break;
                default: ask(); break;
            }
        }
    }

    private void is(String call, int got, int want) {
        left--;
        due.is(call, got, want);
    }

    private int from(int low, int high) {
        return low + random.nextInt(high - low + 1);
    }

    private static final int[] ODD = {Integer.MIN_VALUE, Integer.MAX_VALUE, -5, -4, -3, -2, -1, 1000, 65536};

    /** Mostly a number from low to high, at times one just outside or far away. */
    private int some(int low, int high) {
        int kind = random.nextInt(16);
        if (kind == 0) {
            return ODD[random.nextInt(ODD.length)];
        }
        return kind == 1 ? high + 1 : kind == 2 ? low - 1 : from(low, high);
    }

    // ---- texts

    private void write(String t) {
        for (int i = 0; i < t.length() && left > 0; i++) {
            is("write(" + t.charAt(i) + ")", x.write(t.charAt(i)), m.write(t.charAt(i)));
        }
    }

    private String foldText() {
        StringBuilder t = new StringBuilder();
        int many = from(1, 4);
        for (int i = 1; i < many; i++) {
            t.append("rltb".charAt(random.nextInt(4)));
        }
        t.append("rl".charAt(random.nextInt(2)));
        if (random.nextInt(12) == 0) {
            t.insert(random.nextInt(t.length() + 1), "tbkx rl".charAt(random.nextInt(7)));
        }
        return t.toString();
    }

    private String figures(int low, int high) {
        String f = Integer.toString(random.nextInt(30) == 0 ? high + 1 : from(low, high));
        return random.nextInt(8) == 0 ? "0" + f : f;
    }

    private String item() {
        switch (random.nextInt(6)) {
            case 0: case 1: return "k" + foldText();
            case 2: return "p" + figures(0, 2) + "," + figures(0, random.nextInt(3) == 0 ? 99 : 20);
            case 3: return "n" + figures(1, random.nextInt(2) == 0 ? 400 : 60);
            case 4: return "c" + figures(0, 20);
            default: return "m" + figures(0, 1);
        }
    }

    private void layText() {
        is("wipe()", x.wipe(), m.wipe());
        StringBuilder t = new StringBuilder();
        if (random.nextInt(8) != 0) {
            t.append("k").append(foldText()).append(";");
        }
        int many = from(0, 7);
        for (int i = 0; i < many; i++) {
            t.append(item()).append(";");
        }
        if (t.length() > 0 && random.nextInt(6) == 0) {
            int at = random.nextInt(t.length());
            switch (random.nextInt(3)) {
                case 0: t.deleteCharAt(at); break;
                case 1: t.setCharAt(at, (char) from(32, 126)); break;
                default: t.insert(at, (char) from(32, 126)); break;
            }
        }
        write(t.toString());
        is("fault() of " + t, x.fault(), m.fault());
        is("lay() of " + t, x.lay(), m.lay());
    }

    private void foldAnew() {
        if (random.nextInt(4) != 0) {
            is("wipe()", x.wipe(), m.wipe());
            write(foldText());
        }
        int k = some(0, 3);
        is("folds(" + k + ")", x.folds(k), m.folds(k));
    }

    // ---- calls

    private void change() {
        int what = some(0, 2);
        int k = some(0, 3);
        int v = some(0, 1);
        int j = some(0, Math.max(0, m.plan(0) - 1));
        switch (random.nextInt(8)) {
            case 0:
                int top = what == 0 ? (random.nextInt(2) == 0 ? 400 : 50) : what == 1 ? 20 : 1;
                int told = some(0, top);
                is("tell(" + what + ", " + told + ")", x.tell(what, told), m.tell(what, told));
                break;
            case 1:
                int price = some(0, random.nextInt(2) == 0 ? 99 : 12);
                is("price(" + k + ", " + price + ")", x.price(k, price), m.price(k, price));
                break;
            case 2:
                is("undo()", x.undo(), m.undo());
                break;
            case 3:
                int letter = some(32, 126);
                is("write(" + letter + ")", x.write(letter), m.write(letter));
                break;
            default:
                is("spoil(" + j + ", " + v + ")", x.spoil(j, v), m.spoil(j, v));
                break;
        }
    }

    private void ask() {
        int k = some(0, m.count(0) - 1);
        int side = some(0, 1);
        int columns = Math.max(1, m.scheme(k, 1));
        int rows = Math.max(1, m.scheme(k, 2));
        int pages = Math.max(4, m.scheme(k, 3));
        int c = some(0, columns - 1);
        int r = some(0, rows - 1);
        int p = some(1, pages);
        int b = some(1, m.plan(3));
        int j = some(0, m.plan(0) - 1);
        switch (random.nextInt(9)) {
            case 0: askScheme(k, some(0, 5), some(0, 3)); break;
            case 1: is("page(" + k + ", " + side + ", " + c + ", " + r + ")", x.page(k, side, c, r), m.page(k, side, c, r)); break;
            case 2: askWhere(k, p, some(0, 5), side); break;
            case 3: askFolds(k, side); break;
            case 4: askPlan(some(0, 3), some(1, 400)); break;
            case 5: case 6: int what = some(0, 8); is("book(" + b + ", " + what + ")", x.book(b, what), m.book(b, what)); break;
            case 7: askSheet(j, p, some(0, 4)); break;
            default: askMissing(some(0, 6)); break;
        }
    }

    private void askScheme(int k, int what, int i) {
        is("scheme(" + k + ", " + what + ")", x.scheme(k, what), m.scheme(k, what));
        is("fold(" + k + ", " + i + ")", x.fold(k, i), m.fold(k, i));
    }

    private void askWhere(int k, int p, int what, int side) {
        is("where(" + k + ", " + p + ", " + what + ")", x.where(k, p, what), m.where(k, p, what));
        is("turned(" + k + ", " + side + ")", x.turned(k, side), m.turned(k, side));
    }

    private void askFolds(int k, int side) {
        int n = some(1, 4);
        int page = some(1, n >= 1 && n <= 4 ? 2 << n : 8);
        int c = some(0, random.nextInt(3) == 0 ? 15 : 3);
        int r = some(0, random.nextInt(3) == 0 ? 15 : 3);
        is("find(" + n + ", " + page + ", " + side + ", " + c + ", " + r + ")", x.find(n, page, side, c, r), m.find(n, page, side, c, r));
        is("alike(" + k + ")", x.alike(k), m.alike(k));
        is("unlike(" + n + ")", x.unlike(n), m.unlike(n));
    }

    private void askPlan(int what, int n) {
        is("plan(" + what + ")", x.plan(what), m.plan(what));
        is("blanks(" + n + ")", x.blanks(n), m.blanks(n));
    }

    private void askSheet(int j, int p, int what) {
        is("number(" + j + ", " + p + ")", x.number(j, p), m.number(j, p));
        is("sheet(" + j + ", " + what + ")", x.sheet(j, what), m.sheet(j, what));
    }

    private void askMissing(int what) {
        int i = some(-2, Math.max(1, m.missing(-1)));
        is("missing(" + i + ")", x.missing(i), m.missing(i));
        is("count(" + what + ")", x.count(what), m.count(what));
    }
}
