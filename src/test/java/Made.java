/** Objects made by a text. */
final class Made {
    private Made() { }

    static FoldedPages written(String text) {
        FoldedPages x = new FoldedPages();
        write(x, text);
        return x;
    }

    static FoldedPages laid(String text) {
        FoldedPages x = written(text);
        if (x.lay() <= 0) {
            throw new IllegalStateException(text + " is not laid");
        }
        return x;
    }

    static void write(FoldedPages x, String text) {
        for (int i = 0; i < text.length(); i++) {
            x.write(text.charAt(i));
        }
    }

    static void writeAnew(FoldedPages x, String text) {
        x.wipe();
        write(x, text);
    }
}
