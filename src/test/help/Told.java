/**
 * An object under test. It counts the calls: what an object answers to a 513th is free, so no test
 * may ask for one.
 */
final class Told {
    private static final int MOST_CALLS = 512;
    private final HungMargins object = new HungMargins();
    private int calls;

    /** A new object. */
    Told() {
    }

    /** One whose WORDS are told by a text that has no FAULT. */
    Told(String text) {
        write(text);
        int words = words();
        if (words < 0) throw new IllegalStateException(text + " has a fault: " + words);
    }

    private HungMargins called() {
        calls++;
        if (calls > MOST_CALLS) throw new IllegalStateException("a call beyond the " + MOST_CALLS + "th");
        return object;
    }

    // ---- the face

    int type(int letter) {
        return called().type(letter);
    }

    int clear() {
        return called().clear();
    }

    int words() {
        return called().words();
    }

    int word(int k, int i) {
        return called().word(k, i);
    }

    int different(int k, int what) {
        return called().different(k, what);
    }

    int place(int place, int what) {
        return called().place(place, what);
    }

    int wide(int sign, int width) {
        return called().wide(sign, width);
    }

    int hangs(int mark, int tenths) {
        return called().hangs(mark, tenths);
    }

    int sets(int what, int v) {
        return called().sets(what, v);
    }

    int undo() {
        return called().undo();
    }

    int page(int what) {
        return called().page(what);
    }

    int line(int k, int what) {
        return called().line(k, what);
    }

    int blank(int k, int i, int what) {
        return called().blank(k, i, what);
    }

    int leftOf(int from, int to) {
        return called().leftOf(from, to);
    }

    int puts(int place) {
        return called().puts(place);
    }

    int takes() {
        return called().takes();
    }

    int judged(int what) {
        return called().judged(what);
    }

    int alike(int what) {
        return called().alike(what);
    }

    int sees(int word, int begins) {
        return called().sees(word, begins);
    }

    int forget() {
        return called().forget();
    }

    int unseen(int what) {
        return called().unseen(what);
    }

    int keep(int image) {
        return called().keep(image);
    }

    int back(int image) {
        return called().back(image);
    }

    int count(int what) {
        return called().count(what);
    }

    // ---- several calls at once

    /** The text is typed: what the last letter's call answered (0: there was none). */
    int write(String text) {
        int last = 0;
        for (char c : text.toCharArray()) last = type(c);
        return last;
    }

    /** The signs of a text are all as wide. */
    void wideAll(String signs, int width) {
        for (char c : signs.toCharArray()) wide(c, width);
    }

    int[] counts() {
        int[] all = new int[11];
        for (int what = 0; what < all.length; what++) all[what] = count(what);
        return all;
    }

    int[] pageAll() {
        int[] all = new int[6];
        for (int what = 0; what < all.length; what++) all[what] = page(what);
        return all;
    }

    int[] lineAll(int k) {
        int[] all = new int[7];
        for (int what = 0; what < all.length; what++) all[what] = line(k, what);
        return all;
    }

    int[] blankAll(int k, int i) {
        return new int[] {blank(k, i, 0), blank(k, i, 1), blank(k, i, 2), blank(k, i, 3)};
    }

    /** The PLACES where the LINES of THE PAGE end. */
    int[] ends() {
        int[] all = new int[Math.max(0, page(1))];
        for (int k = 0; k < all.length; k++) all[k] = line(k, 0);
        return all;
    }

    int[] judgedAll() {
        return new int[] {judged(0), judged(1), judged(2)};
    }

    int[] alikeAll() {
        return new int[] {alike(0), alike(1), alike(2)};
    }

    int[] unseenAll() {
        return new int[] {unseen(0), unseen(1), unseen(2)};
    }

    /** WIDTH of a SIGN, which is 0 then. */
    int widthOf(int sign) {
        int was = wide(sign, 0);
        return was == HungMargins.STATE ? 0 : was;
    }

    /** HANG of a MARK, which is 0 then. */
    int hangOf(int mark) {
        int was = hangs(mark, 0);
        return was == HungMargins.STATE ? 0 : was;
    }
}
