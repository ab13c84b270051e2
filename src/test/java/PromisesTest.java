/** The promises 1 to 25, one method each, with answers that were worked out by hand. */
public final class PromisesTest {
    private static final int BAD = -1, STATE = -2, FULL = -3, NONE = -9, NO = -1000000;
    private static final int LEAST = Integer.MIN_VALUE, MOST = Integer.MAX_VALUE;
    private static int wrong = 0;

    private static void due(String what, int got, int want) {
        if (got != want) {
            wrong++;
            System.out.println(what + " answered " + got + ", due is " + want);
        }
    }

    /** All answers of one kind, written one behind the other. */
    private static void due(String what, int[] got, int... want) {
        if (!java.util.Arrays.equals(got, want)) {
            wrong++;
            System.out.println(what + " answered " + java.util.Arrays.toString(got)
                + ", due is " + java.util.Arrays.toString(want));
        }
    }

    private static void write(HungMargins x, String text) {
        for (char c : text.toCharArray()) x.type(c);
    }

    private static HungMargins told(String text) {
        HungMargins x = new HungMargins();
        write(x, text);
        int words = x.words();
        if (words < 0) due("words of " + text, words, 0);
        return x;
    }

    private static int wordsOf(String text) {
        HungMargins x = new HungMargins();
        write(x, text);
        return x.words();
    }

    private static int[] counts(HungMargins x) {
        int[] all = new int[11];
        for (int i = 0; i < all.length; i++) all[i] = x.count(i);
        return all;
    }

    private static int[] page(HungMargins x) {
        int[] all = new int[6];
        for (int i = 0; i < all.length; i++) all[i] = x.page(i);
        return all;
    }

    private static int[] line(HungMargins x, int k) {
        int[] all = new int[7];
        for (int i = 0; i < all.length; i++) all[i] = x.line(k, i);
        return all;
    }

    private static int[] blank(HungMargins x, int k, int i) {
        return new int[] {x.blank(k, i, 0), x.blank(k, i, 1), x.blank(k, i, 2), x.blank(k, i, 3)};
    }

    private static int[] judged(HungMargins x) {
        return new int[] {x.judged(0), x.judged(1), x.judged(2)};
    }

    private static int[] alike(HungMargins x) {
        return new int[] {x.alike(0), x.alike(1), x.alike(2)};
    }

    private static int[] unseen(HungMargins x) {
        return new int[] {x.unseen(0), x.unseen(1), x.unseen(2)};
    }

    private static int[] ends(HungMargins x) {
        int[] all = new int[Math.max(0, x.page(1))];
        for (int k = 0; k < all.length; k++) all[k] = x.line(k, 0);
        return all;
    }

    public static void main(String[] args) {
        newObject();
        type();
        clear();
        words();
        faults();
        readAnew();
        word();
        different();
        place();
        wide();
        hangs();
        sets();
        undo();
        page();
        costs();
        theOnePage();
        line();
        blank();
        rivers();
        leftOf();
        puts();
        takes();
        judged();
        alike();
        sees();
        forget();
        unseen();
        keep();
        back();
        count();
        System.out.println(wrong == 0 ? "all answers are as due" : wrong + " answers are not as due");
        if (wrong != 0) System.exit(1);
    }

    private static void newObject() {
        HungMargins x = new HungMargins();
        due("1 counts", counts(x), 0, 0, 3, 60, 50, 100, 0, 0, 0, 0, 0);
        due("1 page", page(x), 0, 0, 0, 0, 0, 0);
        due("1 word", x.word(0, -1), BAD);
        due("1 different", x.different(0, 0), NONE);
        due("1 place", x.place(0, 0), BAD);
        due("1 line", x.line(0, 0), BAD);
        due("1 blank", x.blank(0, 0, 0), BAD);
        due("1 leftOf", x.leftOf(-1, 0), NO);
        due("1 judged", judged(x), 0, NONE, 0);
        due("1 alike", alike(x), 191, 10, 200);
        due("1 unseen", unseen(x), 191, 10, 200);
        due("1 undo", x.undo(), STATE);
        due("1 back", x.back(0), STATE);
        due("1 width", x.wide('q', 5), 4);
        due("1 width of a mark", x.wide('\'', 5), 2);
        due("1 hang", x.hangs('\'', 5), 0);
    }

    private static void type() {
        HungMargins x = new HungMargins();
        due("2 -1", x.type(-1), BAD);
        due("2 256", x.type(256), BAD);
        due("2 least", x.type(LEAST), BAD);
        due("2 most", x.type(MOST), BAD);
        due("2 0", x.type(0), 1);
        due("2 255", x.type(255), 2);
        for (int i = 2; i < 200; i++) due("2 letter", x.type('a'), i + 1);
        due("2 full", x.type('a'), FULL);
        due("2 bad ahead of full", x.type(256), BAD);
        due("2 stays", x.count(8), 200);
    }

    private static void clear() {
        HungMargins x = new HungMargins();
        due("3 empty", x.clear(), 0);
        write(x, "abc");
        due("3 three", x.clear(), 3);
        due("3 again", x.clear(), 0);
        due("3 type", x.type('a'), 1);
        x.words();
        write(x, "b");
        x.clear();
        due("3 words stay", x.count(0), 1);
    }

    private static void words() {
        due("4 none", wordsOf(""), 0);
        due("4 blanks", wordsOf("    "), 0);
        due("4 one", wordsOf("a"), 1);
        due("4 many blanks", wordsOf("  a   b.,  "), 2);
        due("4 marks alone", wordsOf(". , - '"), 4);
        due("4 sixteen", wordsOf("abcdefghijklmnop"), 1);
        due("4 sixteen with /", wordsOf("a/b/c/d/e/f/g/hi"), 1);
        due("4 thirty", wordsOf("a ".repeat(30)), 30);
        due("4 thirty and blanks", wordsOf("a ".repeat(30) + "   "), 30);
        HungMargins x = told("a/b/c/d/e/f/g/h ".repeat(12) + "a/b/c/de");
        due("4 most places", x.count(1), 100);
        due("4 last place", x.place(99, 0), 12);
        due("4 text is empty", x.count(8), 0);
    }

    private static void faults() {
        due("4 capital", wordsOf("aB"), -11);
        due("4 first", wordsOf("0"), -10);
        due("4 behind z", wordsOf("{"), -10);
        due("4 ahead of a", wordsOf("`"), -10);
        due("4 tab", wordsOf("a\tb"), -11);
        due("4 letter 0", wordsOf("a " + (char) 0), -12);
        due("4 letter 255", wordsOf("a " + (char) 255), -12);
        due("4 / at the beginning", wordsOf("/a"), -10);
        due("4 / at the end", wordsOf("a/"), -11);
        due("4 / ahead of a blank", wordsOf("a/ b"), -11);
        due("4 / behind a blank", wordsOf("a /b"), -12);
        due("4 //", wordsOf("a//b"), -11);
        due("4 / ahead of no sign", wordsOf("a/Bc"), -11);
        due("4 / alone", wordsOf("a / b"), -12);
        due("4 / between marks", wordsOf("-/-"), 1);
        due("4 17th", wordsOf("abcdefghijklmnopq"), -26);
        due("4 17th, / too", wordsOf("a/b/c/d/e/f/g/h/i"), -26);
        due("4 17th of a later word", wordsOf("ab abcdefghijklmnopq"), -29);
        due("4 31st", wordsOf("a ".repeat(30) + "a"), -70);
        due("4 31st / first", wordsOf("a ".repeat(30) + "/"), -70);
        due("4 31st behind blanks", wordsOf("a ".repeat(30) + "  a"), -72);
        due("4 the first of two", wordsOf("a/ B"), -11);
    }

    private static void readAnew() {
        HungMargins x = told("ab cd");
        x.wide('a', 9);
        x.hangs('.', 9);
        x.sets(0, 4);
        x.sets(1, 70);
        x.sets(2, 1);
        x.sets(3, 2);
        x.keep(0);
        x.keep(1);
        x.puts(1);
        x.sees(0, 1);
        write(x, "x/");
        due("4 fault", x.words(), -11);
        due("4 nothing changes", counts(x), 2, 2, 4, 70, 1, 2, 1, 1, 2, 6, 2);
        x.type('y');
        due("4 mended", x.words(), 1);
        due("4 all as at first", counts(x), 1, 2, 3, 60, 50, 100, 0, 0, 0, 0, 1);
        due("4 width as at first", x.wide('a', 9), 4);
        due("4 hang as at first", x.hangs('.', 9), 0);
        due("4 images are gone", x.back(0), STATE);
        due("4 both", x.back(1), STATE);
        due("4 no text, no words", x.words(), 0);
        due("4 nothing there", counts(x), 0, 0, 3, 60, 50, 100, 0, 0, 0, 0, 0);
        due("4 width again", x.wide('a', 9), 4);
    }

    private static void word() {
        HungMargins x = told("so un/der, it");
        due("5 size", x.word(0, -1), 2);
        due("5 size with /", x.word(1, -1), 7);
        due("5 first", x.word(1, 0), 'u');
        due("5 /", x.word(1, 2), '/');
        due("5 last", x.word(1, 6), ',');
        due("5 next one's", x.word(2, 0), 'i');
        due("5 none", x.word(1, 7), NONE);
        due("5 none, far", x.word(1, MOST), NONE);
        due("5 i", x.word(1, -2), BAD);
        due("5 i least", x.word(1, LEAST), BAD);
        due("5 k", x.word(3, 0), BAD);
        due("5 k below", x.word(-1, 0), BAD);
        due("5 k most", x.word(MOST, -1), BAD);
        due("5 k least", x.word(LEAST, -1), BAD);
    }

    private static void different() {
        HungMargins x = told("un/der the under so, so u/nder the unde");
        due("6 first", x.different(0, 0), 0);
        due("6 / let out", x.different(0, 1), 3);
        due("6 the", x.different(1, 0), 1);
        due("6 how many", x.different(1, 1), 2);
        due("6 so, has a mark", x.different(2, 0), 3);
        due("6 once", x.different(2, 1), 1);
        due("6 so", x.different(3, 0), 4);
        due("6 shorter", x.different(4, 0), 7);
        due("6 none", x.different(5, 0), NONE);
        due("6 none, far", x.different(MOST, 1), NONE);
        due("6 k", x.different(-1, 0), BAD);
        due("6 k least", x.different(LEAST, 0), BAD);
        due("6 what", x.different(0, 2), BAD);
        due("6 what below", x.different(0, -1), BAD);
        due("6 bad ahead of none", x.different(9, 2), BAD);
        due("6 how many there are", x.count(10), 5);
    }

    private static void place() {
        HungMargins x = told("ab c-/d/'e f");
        int[][] want = {{0, 2, 0}, {1, 2, 1}, {1, 3, 1}, {1, 5, 0}, {2, 1, 0}};
        for (int p = 0; p < want.length; p++) {
            due("7 place " + p, new int[] {x.place(p, 0), x.place(p, 1), x.place(p, 2)}, want[p]);
        }
        due("7 no such", x.place(5, 0), BAD);
        due("7 below", x.place(-1, 0), BAD);
        due("7 most", x.place(MOST, 0), BAD);
        due("7 least", x.place(LEAST, 0), BAD);
        due("7 what", x.place(0, 3), BAD);
        due("7 what below", x.place(0, -1), BAD);
    }

    private static void wide() {
        HungMargins x = told("az. b");
        due("8 a", x.wide('a', 0), 4);
        due("8 z", x.wide('z', 9), 4);
        due("8 .", x.wide('.', 5), 2);
        due("8 again", x.wide('a', 7), 0);
        due("8 state", x.wide('a', 7), STATE);
        due("8 state at first", x.wide('-', 2), STATE);
        due("8 it counts", x.line(0, 1), 7 + 9 + 5 + 3 + 4);
        due("8 wider", x.wide('b', 10), BAD);
        due("8 below 0", x.wide('b', -1), BAD);
        due("8 /", x.wide('/', 0), BAD);
        due("8 blank", x.wide(' ', 3), BAD);
        due("8 capital", x.wide('A', 3), BAD);
        due("8 behind z", x.wide('z' + 1, 3), BAD);
        due("8 ahead of a", x.wide('a' - 1, 3), BAD);
        due("8 least", x.wide(LEAST, 3), BAD);
        due("8 most", x.wide('a', MOST), BAD);
        due("8 undone", x.count(9), 4);
        HungMargins y = told("a/b");
        y.sets(1, 10);
        y.sets(2, 0);
        y.wide('-', 6);
        due("8 the - at a / is as wide", y.leftOf(-1, 0), 0);
    }

    private static void hangs() {
        HungMargins x = told("a. a, a- a' a/b a");
        due("9 .", x.hangs('.', 10), 0);
        due("9 ,", x.hangs(',', 5), 0);
        due("9 -", x.hangs('-', 1), 0);
        due("9 '", x.hangs('\'', 4), 0);
        due("9 again", x.hangs('.', 0), 10);
        due("9 state", x.hangs('.', 0), STATE);
        due("9 11", x.hangs('.', 11), BAD);
        due("9 -1", x.hangs('.', -1), BAD);
        due("9 /", x.hangs('/', 3), BAD);
        due("9 letter", x.hangs('a', 3), BAD);
        due("9 blank", x.hangs(' ', 3), BAD);
        due("9 least", x.hangs(LEAST, 3), BAD);
        due("9 most", x.hangs(MOST, 3), BAD);
        x.wide(',', 9);
        x.wide('-', 9);
        x.wide('\'', 9);
        x.hangs('-', 7);
        due("9 HUNG of , is cut", x.leftOf(0, 1), 60 + 4 - 13);
        due("9 HUNG of -", x.leftOf(1, 2), 60 + 6 - 13);
        due("9 HUNG of '", x.leftOf(2, 3), 60 + 3 - 13);
        due("9 HUNG of the - at a /", x.leftOf(3, 4), 60 + 6 - 13);
        due("9 no MARK at the end", x.leftOf(4, 5), 60 - 4);
    }

    private static void sets() {
        HungMargins x = new HungMargins();
        int[] least = {1, 10, 0, 0};
        int[] most = {9, 200, 999, 999};
        int[] first = {3, 60, 50, 100};
        for (int what = 0; what < 4; what++) {
            due("10 at first " + what, x.sets(what, first[what]), STATE);
            due("10 below " + what, x.sets(what, least[what] - 1), BAD);
            due("10 above " + what, x.sets(what, most[what] + 1), BAD);
            due("10 least " + what, x.sets(what, least[what]), first[what]);
            due("10 most " + what, x.sets(what, most[what]), least[what]);
            due("10 state " + what, x.sets(what, most[what]), STATE);
            due("10 count " + what, x.count(2 + what), most[what]);
        }
        due("10 what", x.sets(4, 5), BAD);
        due("10 what below", x.sets(-1, 5), BAD);
        due("10 what least", x.sets(LEAST, 5), BAD);
        due("10 what most", x.sets(MOST, 5), BAD);
    }

    private static void undo() {
        HungMargins x = told("a. b");
        x.wide('a', 1);
        x.hangs('.', 3);
        x.sets(0, 9);
        x.sets(0, 9);
        x.wide('a', 10);
        due("11 refused ones don't count", x.count(9), 3);
        due("11 sets", x.undo(), 2);
        due("11 gap", x.count(2), 3);
        due("11 hangs", x.undo(), 1);
        due("11 hang", x.hangs('.', 0), STATE);
        due("11 wide", x.undo(), 0);
        due("11 width", x.wide('a', 4), STATE);
        due("11 none", x.undo(), STATE);
        for (int i = 0; i < 12; i++) x.sets(1, 100 + i);
        due("11 ten are known", x.count(9), 10);
        for (int i = 9; i >= 0; i--) due("11 more", x.undo(), i);
        due("11 older ones are lost", x.count(3), 101);
        due("11 no more", x.undo(), STATE);
        x.puts(0);
        x.sees(0, 1);
        x.type('a');
        due("11 only what is set", x.undo(), STATE);
    }

    private static void page() {
        HungMargins x = told("aaa bb/bb, c");
        x.sets(1, 20);
        due("12 page", page(x), 68, 3, 0, 8 + 2, 0, 0);
        x.sets(1, 25);
        due("12 parted", page(x), 50, 2, 1, 0, 0, 2);
        x.hangs('-', 10);
        due("12 hung", page(x), 54, 2, 1, 0, 0, 2);
        x.sets(1, 12);
        due("12 aaa bb- bb, c", page(x), 0 + (16 + 50) + 4, 4, 1, 4 + 2, 0, 0);
        x.sets(1, 11);
        due("12 none", page(x), NONE, NONE, NONE, NONE, NONE, NONE);
        due("12 what", x.page(6), BAD);
        due("12 what below", x.page(-1), BAD);
        due("12 most", x.page(MOST), BAD);
        due("12 least", x.page(LEAST), BAD);
        x.undo();
        due("12 there again", x.page(1), 4);
    }

    private static void costs() {
        HungMargins x = told("aa/bb/cc");
        x.sets(1, 10);
        due("12 again", page(x), 200, 3, 2, 0, 0, 0);
        due("13 first", x.line(0, 4), 50);
        due("13 parted again", x.line(1, 4), 150);
        due("13 last", x.line(2, 4), 0);
        x.sets(3, 7);
        due("12 AGAIN", x.page(0), 107);
        x.sets(2, 0);
        due("12 PARTED", x.page(0), 7);
        // A LINE that ends at a / behind one that does not: no AGAIN.
        HungMargins y = told("aa bb/cc");
        y.sets(1, 10);
        due("12 no AGAIN", y.page(0), 4 + 50);
    }

    private static void theOnePage() {
        HungMargins x = told("aa a aa zzz");
        x.sets(1, 15);
        due("12 later first end", ends(x), 1, 2, 3);
        due("12 its cost", x.page(0), 49);
        HungMargins y = told("a/a");
        y.wide('a', 1);
        y.wide('-', 9);
        y.sets(1, 10);
        y.sets(2, 0);
        due("12 fewest lines", ends(y), 1);
        // bba b|b aab|bba a and bba b b|aa-|b bba|a both cost 13.
        HungMargins z = told("bba b b aa/b bba a");
        z.wide('a', 3);
        z.wide('b', 2);
        z.wide('-', 5);
        z.sets(0, 1);
        z.sets(1, 13);
        z.sets(2, 0);
        z.sets(3, 0);
        due("12 fewest ahead of later", ends(z), 1, 4, 6);
        due("12 cost", z.page(0), 13);
        // The shorter LINE "a-" can't be, the longer "ab" can.
        HungMargins w = told("a/b c");
        w.wide('a', 2);
        w.wide('b', 8);
        w.wide('-', 9);
        w.sets(1, 10);
        due("12 a longer line fits", ends(w), 1, 2);
        // And by a MARK that hangs: "bb" is 12 wide, "bb," 21 and hangs by 9.
        HungMargins v = told("bb/, bb");
        v.wide('b', 6);
        v.wide(',', 9);
        v.hangs(',', 10);
        v.sets(1, 12);
        due("12 a mark hangs", ends(v), 1, 2);
        // Nine "a" are 60 wide.
        due("12 thirty words", ends(told("a ".repeat(30))), 8, 17, 26, 29);
    }

    private static void line() {
        HungMargins x = told("aaa bb/bb, c");
        x.sets(1, 25);
        due("13 first", line(x, 0), 1, 25, 0, 0, 50, 1, 25);
        due("13 last", line(x, 1), 3, 17, 0, 8, 0, 1, 17);
        x.hangs('-', 10);
        due("13 hung", line(x, 0), 1, 25, 2, 2, 54, 1, 27);
        x.sets(1, 20);
        due("13 without blanks", line(x, 0), 0, 12, 0, 8, 64, 0, 12);
        due("13 second", line(x, 1), 2, 18, 0, 2, 4, 0, 18);
        due("13 third", line(x, 2), 3, 4, 0, 16, 0, 0, 4);
        due("13 k", x.line(3, 0), BAD);
        due("13 k below", x.line(-1, 0), BAD);
        due("13 k most", x.line(MOST, 0), BAD);
        due("13 k least", x.line(LEAST, 0), BAD);
        due("13 what", x.line(0, 7), BAD);
        due("13 what below", x.line(0, -1), BAD);
        x.sets(1, 10);
        due("13 no page", line(x, 0), NONE, NONE, NONE, NONE, NONE, NONE, NONE);
        due("13 no page, any k", x.line(MOST, 0), NONE);
        due("13 no page, k below", x.line(-1, 0), BAD);
        due("13 no page, what", x.line(0, 7), BAD);
    }

    private static void blank() {
        // a b c d is 25 wide: 5 are left for 3 BLANKS, which are 5, 5, 4 wide.
        HungMargins x = told("a b c d eeeeeee f");
        x.sets(1, 30);
        due("14 first", blank(x, 0, 0), 4, 9, 1, 0);
        due("14 second", blank(x, 0, 1), 13, 18, 1, 0);
        due("14 third", blank(x, 0, 2), 22, 26, 1, 0);
        due("14 no fourth", blank(x, 0, 3), NONE, NONE, NONE, NONE);
        due("14 none, far", x.blank(0, MOST, 0), NONE);
        due("14 no blanks", x.blank(1, 0, 0), NONE);
        due("14 lines", x.page(1), 3);
        due("14 k", x.blank(3, 0, 0), BAD);
        due("14 k below", x.blank(-1, 0, 0), BAD);
        due("14 k most", x.blank(MOST, 0, 0), BAD);
        due("14 i", x.blank(0, -1, 0), BAD);
        due("14 i least", x.blank(0, LEAST, 0), BAD);
        due("14 what", x.blank(0, 0, 4), BAD);
        due("14 what below", x.blank(0, 0, -1), BAD);
        due("14 bad ahead of none", x.blank(0, 9, 4), BAD);
        x.sets(1, 70);
        due("14 one line, the last", x.page(1), 1);
        due("14 gaps", blank(x, 0, 0), 4, 7, 1, 0);
        due("14 last gap", blank(x, 0, 4), 56, 59, 1, 0);
        x.sets(1, 27);
        due("14 no page", blank(x, 0, 0), NONE, NONE, NONE, NONE);
        due("14 no page, any", x.blank(MOST, MOST, 3), NONE);
        due("14 no page, k", x.blank(-1, 0, 0), BAD);
        due("14 no page, i", x.blank(0, -1, 0), BAD);
        due("14 no page, what", x.blank(0, 0, 4), BAD);
        // A / within a LINE is 0 wide, a part of a WORD begins a LINE.
        HungMargins y = told("aa/bb/c d eee");
        y.sets(2, 0);
        y.sets(3, 0);
        y.sets(1, 14);
        due("14 aa- bb- c d eee", ends(y), 0, 1, 3, 4);
        due("14 behind a part", blank(y, 2, 0), 4, 10, 1, 0);
        y.sets(1, 32);
        due("14 aabbc d eee", ends(y), 3, 4);
        due("14 behind /", blank(y, 0, 0), 20, 28, 1, 0);
    }

    private static void rivers() {
        // Each LINE is "a b" by 11: BLANKS 4 .. 7, one under the other.
        HungMargins x = told("a b a b a b a b");
        x.sets(1, 11);
        due("14 longs", new int[] {x.blank(0, 0, 2), x.blank(1, 0, 2), x.blank(2, 0, 2), x.blank(3, 0, 2)}, 4, 3, 2, 1);
        due("14 springs", new int[] {x.blank(0, 0, 3), x.blank(1, 0, 3), x.blank(2, 0, 3), x.blank(3, 0, 3)}, 1, 0, 0, 0);
        due("12 rivers", page(x), 0, 4, 0, 0, 1, 4);
        // Two LINES make no SPRING, three do.
        HungMargins two = told("a b a b");
        two.sets(1, 11);
        due("14 two", page(two), 0, 2, 0, 0, 0, 2);
        HungMargins three = told("a b a b a b");
        three.sets(1, 11);
        due("14 three", page(three), 0, 3, 0, 0, 1, 3);
        // BLANKS 4 .. 7 and 7 .. 10 have a point in common, not more.
        HungMargins point = told("a cb ba c a cb");
        point.wide('c', 3);
        point.wide('b', 4);
        point.sets(1, 14);
        due("14 ends", ends(point), 1, 3, 5);
        due("14 above", blank(point, 0, 0), 4, 7, 1, 0);
        due("14 beside", blank(point, 1, 0), 8, 11, 1, 0);
        point.wide('b', 3);
        point.wide('c', 4);
        due("14 ends too", ends(point), 1, 3, 5);
        due("14 above too", blank(point, 0, 0), 4, 7, 1, 0);
        due("14 a point", blank(point, 1, 0), 7, 10, 1, 0);
        due("14 below", blank(point, 2, 0), 4, 7, 1, 0);
        due("12 no river", page(point), 0, 3, 0, 0, 0, 1);
    }

    private static void leftOf() {
        HungMargins x = told("aaa bb/bb, c");
        x.sets(1, 20);
        due("15 from the beginning", x.leftOf(-1, 0), 8);
        due("15 to a /", x.leftOf(-1, 1), -5);
        due("15 over a /", x.leftOf(-1, 2), -13);
        due("15 all", x.leftOf(-1, 3), -20);
        due("15 from a word", x.leftOf(0, 1), 10);
        due("15 from a /", x.leftOf(1, 3), 3);
        due("15 last", x.leftOf(2, 3), 16);
        x.hangs(',', 5);
        due("15 hung", x.leftOf(0, 2), 3);
        due("15 same", x.leftOf(1, 1), NO);
        due("15 ahead", x.leftOf(2, 1), NO);
        due("15 from -2", x.leftOf(-2, 1), NO);
        due("15 from least", x.leftOf(LEAST, 1), NO);
        due("15 to", x.leftOf(0, 4), NO);
        due("15 to most", x.leftOf(-1, MOST), NO);
        due("15 to -1", x.leftOf(-1, -1), NO);
        due("15 from most", x.leftOf(MOST, MOST), NO);
        x.sets(1, 10);
        due("15 without a page", x.leftOf(-1, 0), -2);
    }

    private static void puts() {
        HungMargins x = told("aaa bb/bb, c");
        due("16 below", x.puts(-1), BAD);
        due("16 above", x.puts(4), BAD);
        due("16 most", x.puts(MOST), BAD);
        due("16 least", x.puts(LEAST), BAD);
        due("16 one", x.puts(1), 1);
        due("16 the same", x.puts(1), BAD);
        due("16 ahead", x.puts(0), BAD);
        due("16 two", x.puts(3), 2);
        due("16 stays", x.count(6), 2);
        x.sets(1, 25);
        x.keep(0);
        x.back(0);
        x.forget();
        due("16 only words() and takes() end it", x.count(6), 2);
    }

    private static void takes() {
        HungMargins x = told("aaa bb/bb, c");
        due("17 none", x.takes(), STATE);
        x.puts(1);
        x.puts(3);
        due("17 last", x.takes(), 3);
        due("17 one is left", x.count(6), 1);
        due("17 earlier one", x.puts(2), 2);
        due("17 that", x.takes(), 2);
        due("17 first", x.takes(), 1);
        due("17 no more", x.takes(), STATE);
    }

    private static void judged() {
        HungMargins x = told("aaa bb/bb, c");
        x.sets(1, 20);
        due("18 empty", judged(x), 2, 0, NONE);
        x.puts(0);
        due("18 too short", judged(x), 2, 1, NONE);
        x.puts(1);
        x.puts(2);
        due("18 not at the end", judged(x), 2, 3, NONE);
        x.puts(3);
        due("18 a page", judged(x), 0, NONE, (64 + 150 + 100) - 68);
        x.takes();
        x.takes();
        x.puts(3);
        due("18 another", judged(x), 0, NONE, (64 + 150) - 68);
        x.takes();
        x.takes();
        x.puts(2);
        x.puts(3);
        due("18 the page", judged(x), 0, NONE, 0);
        x.sets(1, 17);
        due("18 can't be", judged(x), 1, 1, NONE);
        x.sets(1, 10);
        due("18 no page", judged(x), 1, 0, NONE);
        x.undo();
        x.takes();
        due("18 the first that is wrong", judged(x), 1, 1, NONE);
        due("18 what", x.judged(3), BAD);
        due("18 what below", x.judged(-1), BAD);
        due("18 most", x.judged(MOST), BAD);
        due("18 least", x.judged(LEAST), BAD);
    }

    private static void alike() {
        // One LINE from 18 on; "a b|c" from 11 on; three LINES by 10.
        HungMargins x = told("a b c");
        due("19 one line", alike(x), 183, 18, 200);
        x.sets(1, 12);
        due("19 two lines", alike(x), 7, 11, 17);
        x.sets(1, 10);
        due("19 three lines", alike(x), 1, 10, 10);
        x.wide('a', 9);
        x.wide('b', 9);
        due("19 three until b c fits", alike(x), 6, 10, 15);
        x.sets(1, 21);
        due("19 two wider ones", alike(x), 7, 21, 27);
        HungMargins y = told("aaa");
        due("19 from the least", alike(y), 189, 12, 200);
        y.sets(1, 11);
        due("19 no page", alike(y), NONE, NONE, NONE);
        due("19 what", y.alike(3), BAD);
        due("19 what below", y.alike(-1), BAD);
        due("19 most", y.alike(MOST), BAD);
        due("19 least", y.alike(LEAST), BAD);
    }

    private static void sees() {
        HungMargins x = told("a b c");
        due("20 word below", x.sees(-1, 0), BAD);
        due("20 word", x.sees(3, 0), BAD);
        due("20 most", x.sees(MOST, 0), BAD);
        due("20 least", x.sees(LEAST, 0), BAD);
        due("20 begins", x.sees(0, 2), BAD);
        due("20 begins below", x.sees(0, -1), BAD);
        due("20 one", x.sees(0, 1), 1);
        due("20 the same again", x.sees(0, 1), 2);
        due("20 not so", x.sees(0, 0), 3);
        for (int i = 3; i < 6; i++) due("20 more", x.sees(2, 1), i + 1);
        due("20 full", x.sees(2, 1), FULL);
        due("20 bad ahead of full", x.sees(3, 1), BAD);
        due("20 stays", x.count(7), 6);
    }

    private static void forget() {
        HungMargins x = told("a b c");
        due("21 nothing", x.forget(), 0);
        x.sees(0, 1);
        x.sees(2, 0);
        due("21 two", x.forget(), 2);
        due("21 nothing more", x.count(7), 0);
        due("21 one anew", x.sees(0, 1), 1);
    }

    private static void unseen() {
        HungMargins x = told("a b c");
        due("22 all", unseen(x), 191, 10, 200);
        x.sees(0, 1);
        due("22 the first word always begins", unseen(x), 191, 10, 200);
        x.sees(2, 1);
        due("22 c begins", unseen(x), 8, 10, 17);
        x.sees(1, 0);
        due("22 b does not", unseen(x), 7, 11, 17);
        x.sets(1, 77);
        due("22 the MEASURE is unknown", unseen(x), 7, 11, 17);
        x.wide('c', 9);
        due("22 with all else as it is now", unseen(x), 12, 11, 22);
        x.undo();
        due("22 and undone", unseen(x), 7, 11, 17);
        x.sees(2, 0);
        due("22 none", unseen(x), 0, NONE, NONE);
        x.forget();
        x.sees(0, 0);
        due("22 never", unseen(x), 0, NONE, NONE);
        due("22 what", x.unseen(3), BAD);
        due("22 what below", x.unseen(-1), BAD);
        due("22 most", x.unseen(MOST), BAD);
        due("22 least", x.unseen(LEAST), BAD);
        // No PAGE by 10 and 11; a part of a WORD that begins a LINE is no WORD that does.
        HungMargins y = told("aaa bbb/bbb");
        y.sets(1, 10);
        due("22 only where there is a page", unseen(y), 187, 14, 200);
        y.sees(1, 0);
        due("22 it goes on in the line", unseen(y), 200 - 28, 29, 200);
        // A - is too wide for any LINE to end at a / by 10: each WORD is a LINE, word 8 behind PLACE 63.
        HungMargins z = told("a/b/c/d/e/f/g/h ".repeat(12) + "a/b/c/de");
        z.wide('a', 2);
        for (char c = 'b'; c <= 'h'; c++) z.wide(c, 1);
        z.wide('-', 9);
        for (int w = 7; w <= 12; w++) due("22 seen", z.sees(w, 1), w - 6);
        due("22 far behind", z.unseen(1), 10);
        z.sets(1, 10);
        due("22 ends", ends(z), 7, 15, 23, 31, 39, 47, 55, 63, 71, 79, 87, 95, 99);
    }

    private static void keep() {
        HungMargins x = told("a. b");
        due("23 kept", x.keep(0), 60);
        x.sets(1, 33);
        due("23 the other", x.keep(1), 33);
        due("23 anew", x.keep(0), 33);
        due("23 2", x.keep(2), BAD);
        due("23 -1", x.keep(-1), BAD);
        due("23 most", x.keep(MOST), BAD);
        due("23 least", x.keep(LEAST), BAD);
        due("23 still undone", x.undo(), 0);
        due("23 an image stays", x.back(0), 33);
    }

    private static void back() {
        HungMargins x = told("a. b");
        due("24 none", x.back(0), STATE);
        due("24 2", x.back(2), BAD);
        due("24 -1", x.back(-1), BAD);
        due("24 most", x.back(MOST), BAD);
        due("24 least", x.back(LEAST), BAD);
        x.wide('a', 1);
        x.hangs('.', 5);
        x.sets(0, 5);
        x.sets(1, 44);
        x.sets(2, 6);
        x.sets(3, 7);
        x.keep(1);
        due("24 the other is none", x.back(0), STATE);
        x.wide('a', 2);
        x.hangs('.', 6);
        x.sets(0, 1);
        x.sets(1, 11);
        x.sets(2, 1);
        x.sets(3, 1);
        x.puts(0);
        x.sees(1, 1);
        x.type('q');
        due("24 back", x.back(1), 44);
        due("24 all of that and nothing else", counts(x), 2, 2, 5, 44, 6, 7, 1, 1, 1, 0, 2);
        due("24 width", x.wide('a', 3), 1);
        due("24 hang", x.hangs('.', 3), 5);
        due("24 nothing older can be undone", x.undo(), 1);
        due("24 again", x.back(1), 44);
        due("24 the image was not touched", x.wide('a', 9), 1);
        due("24 the page is that one", x.line(0, 1), 9 + 2 + 5 + 4);
        due("24 alike", x.alike(1), 20);
        x.back(1);
        due("24 the page is the image's", x.line(0, 1), 1 + 2 + 5 + 4);
        due("24 so are those that are alike", x.alike(1), 12);
        x.wide('a', 9);
        x.undo();
        due("24 one change, one undone", x.undo(), STATE);
    }

    private static void count() {
        HungMargins x = told("a/b a ab a");
        x.sets(0, 4);
        x.sets(1, 61);
        x.sets(2, 51);
        x.sets(3, 101);
        x.puts(2);
        x.sees(0, 1);
        x.sees(1, 1);
        write(x, "abc");
        due("25 counts", counts(x), 4, 5, 4, 61, 51, 101, 1, 2, 3, 4, 2);
        due("25 what", x.count(11), BAD);
        due("25 what below", x.count(-1), BAD);
        due("25 most", x.count(MOST), BAD);
        due("25 least", x.count(LEAST), BAD);
    }
}
