/** The boundaries of what is done, undone and kept (Terms 1 and 3; promises 8 to 11, 23 to 25). */
public final class SettingBoundariesTest extends Sentences {
    private static final int GAP = 0, MEASURE = 1, PARTED = 2, AGAIN = 3;
    private static final String PLAIN_SIGNS = LETTERS + MARKS;

    public static void main(String[] args) {
        test("WIDTHS (0 .. 9)", SettingBoundariesTest::widths);
        test("a letter 4, a MARK 2, / 0 (always) at first.", SettingBoundariesTest::firstWidths);
        test("WIDTH of a SIGN (as typed; not /), 0 .. 9: what it was. BAD", SettingBoundariesTest::noSuchSign);
        test("STATE: it is that.", SettingBoundariesTest::itIsThatWidth);
        test("HANG of a MARK: 0 .. 10 tenths (0 at first).", SettingBoundariesTest::hangs);
        test("HANG of a MARK (as typed), 0 .. 10: what it was. BAD; STATE: it is that.", SettingBoundariesTest::noSuchMark);
        test("GAP (1 .. 9; 3 at first)", () -> range(GAP, 1, 9, 3));
        test("MEASURE (10 .. 200; 60 at first).", () -> range(MEASURE, 10, 200, 60));
        test("PARTED, AGAIN (0 .. 999; 50, 100 at first).", SettingBoundariesTest::partedAndAgain);
        test("GAP (what = 0), MEASURE (1), PARTED (2), AGAIN (3): what it was. BAD; STATE: it is that.",
            SettingBoundariesTest::noSuchSetting);
        test("UNDONE: how many more may be. STATE: none.", SettingBoundariesTest::undone);
        test("UNDONE: the latest wide(), hangs(), sets(), that was not refused", SettingBoundariesTest::refusedAreNotUndone);
        test("(10 are known, older ones are lost)", SettingBoundariesTest::tenAreKnown);
        test("An IMAGE is kept: MEASURE. BAD.", SettingBoundariesTest::kept);
        test("IMAGES 0, 1 keep WIDTHS, HANGS, GAP, MEASURE, PARTED, AGAIN", SettingBoundariesTest::allIsKept);
        test("nothing else (nothing can be UNDONE behind back()).", SettingBoundariesTest::nothingElseIsKept);
        test("All of that becomes as an IMAGE has it: MEASURE. BAD; STATE: none was kept.", SettingBoundariesTest::noImage);
        test("as told, all else as at first", SettingBoundariesTest::anewAllAsAtFirst);
        test("no DRAFT, nothing SEEN, IMAGES are gone, nothing can be UNDONE.)", SettingBoundariesTest::anewNothingIsLeft);
        test("0 WORDS, 1 PLACES, 2 GAP, 3 MEASURE, 4 PARTED, 5 AGAIN, 6 PLACES of the DRAFT, 7 SEEN, "
            + "8 letters of THE TEXT, 9 how many may be UNDONE, 10 DIFFERENT WORDS. BAD.", SettingBoundariesTest::counts);
        end();
    }

    private static void widths() {
        Told x = new Told("ab");
        due("0", x.wide('a', 0), 4);
        due("it is 0 wide", x.leftOf(-1, 0), 60 - 4);
        due("9", x.wide('a', 9), 0);
        due("it is 9 wide", x.leftOf(-1, 0), 60 - 13);
        due("10", x.wide('a', 10), BAD);
        due("-1", x.wide('a', -1), BAD);
        due("least", x.wide('a', LEAST), BAD);
        due("most", x.wide('a', MOST), BAD);
        due("it is 9", x.wide('a', 9), STATE);
        due("a mark, 0", x.wide('.', 0), 2);
        due("a mark, 9", x.wide('.', 9), 0);
        due("a mark, 10", x.wide('.', 10), BAD);
        due("a mark, -1", x.wide('.', -1), BAD);
    }

    private static void firstWidths() {
        Told x = new Told();
        for (char sign : LETTERS.toCharArray()) due("a letter, " + sign, x.wide(sign, 9), 4);
        for (char sign : MARKS.toCharArray()) due("a mark, " + sign, x.wide(sign, 9), 2);
        Told y = new Told("a/b/c");
        due("/ is 0 wide", y.line(0, 1), 12);
        due("/ can't be wider", y.wide('/', 1), BAD);
        due("nor told to be 0", y.wide('/', 0), BAD);
        y.wideAll("abc-", 9);
        due("/ is 0 wide still", y.line(0, 1), 27);
    }

    private static void noSuchSign() {
        Told x = new Told();
        for (int sign = -1; sign <= 256; sign++) {
            boolean stands = sign >= 0 && sign < 128 && PLAIN_SIGNS.indexOf(sign) >= 0;
            if (!stands) due("the sign " + sign, x.wide(sign, 5), BAD);
        }
        due("least", x.wide(LEAST, 5), BAD);
        due("most", x.wide(MOST, 5), BAD);
        due("a and 256", x.wide('a' + 256, 5), BAD);
        due("a and 65536", x.wide('a' + 65536, 5), BAD);
        due("a", x.wide('a', 5), 4);
        due("z", x.wide('z', 5), 4);
        due("'", x.wide('\'', 5), 2);
        due("only the three were done", x.count(9), 3);
    }

    private static void itIsThatWidth() {
        Told x = new Told();
        due("a letter at first", x.wide('a', 4), STATE);
        due("a mark at first", x.wide('-', 2), STATE);
        due("nothing was done", x.count(9), 0);
        x.wide('a', 0);
        due("0", x.wide('a', 0), STATE);
        due("of another it is not", x.wide('b', 0), 4);
        due("BAD is ahead of it: /", x.wide('/', 0), BAD);
        due("two were done", x.count(9), 2);
    }

    private static void hangs() {
        for (char mark : MARKS.toCharArray()) {
            Told x = new Told("a" + mark);
            x.wide(mark, 9);
            due("0 at first, " + mark, x.leftOf(-1, 0), 60 - 13);
            due("10, " + mark, x.hangs(mark, 10), 0);
            due("it hangs as wide as it is, " + mark, x.leftOf(-1, 0), 60 - 13 + 9);
            due("11, " + mark, x.hangs(mark, 11), BAD);
            due("-1, " + mark, x.hangs(mark, -1), BAD);
            due("0, " + mark, x.hangs(mark, 0), 10);
            due("it does not hang, " + mark, x.leftOf(-1, 0), 60 - 13);
            due("1, " + mark, x.hangs(mark, 1), 0);
            due("least, " + mark, x.hangs(mark, LEAST), BAD);
            due("most, " + mark, x.hangs(mark, MOST), BAD);
            due("it is 1, " + mark, x.hangs(mark, 0), 1);
        }
    }

    private static void noSuchMark() {
        Told x = new Told();
        for (int mark = -1; mark <= 256; mark++) {
            boolean stands = mark >= 0 && mark < 128 && MARKS.indexOf(mark) >= 0;
            if (!stands) due("the mark " + mark, x.hangs(mark, 5), BAD);
        }
        due("least", x.hangs(LEAST, 5), BAD);
        due("most", x.hangs(MOST, 5), BAD);
        due(". and 256", x.hangs('.' + 256, 5), BAD);
        due("STATE at first", x.hangs('.', 0), STATE);
        due("BAD is ahead of STATE: a letter", x.hangs('a', 0), BAD);
        due("BAD is ahead of STATE: /", x.hangs('/', 0), BAD);
        due("nothing was done", x.count(9), 0);
        due(".", x.hangs('.', 5), 0);
        due("STATE", x.hangs('.', 5), STATE);
        due("of another it is not", x.hangs(',', 5), 0);
        due("two were done", x.count(9), 2);
    }

    private static void range(int what, int least, int greatest, int first) {
        Told x = new Told("a");
        due("at first", x.count(2 + what), first);
        due("it is that at first", x.sets(what, first), STATE);
        due("too small", x.sets(what, least - 1), BAD);
        due("too large", x.sets(what, greatest + 1), BAD);
        due("least of all", x.sets(what, LEAST), BAD);
        due("most of all", x.sets(what, MOST), BAD);
        due("nothing was done", x.count(9), 0);
        due("the least", x.sets(what, least), first);
        due("it is the least", x.count(2 + what), least);
        due("it is that", x.sets(what, least), STATE);
        due("the greatest", x.sets(what, greatest), least);
        due("it is the greatest", x.count(2 + what), greatest);
        due("it is that too", x.sets(what, greatest), STATE);
        due("two were done", x.count(9), 2);
        for (int other = 0; other < 4; other++) {
            if (other != what) due("another, " + other, x.count(2 + other), new int[] {3, 60, 50, 100}[other]);
        }
    }

    private static void partedAndAgain() {
        range(PARTED, 0, 999, 50);
        range(AGAIN, 0, 999, 100);
    }

    private static void noSuchSetting() {
        Told x = new Told();
        due("-1", x.sets(-1, 10), BAD);
        due("4", x.sets(4, 10), BAD);
        due("least", x.sets(LEAST, 10), BAD);
        due("most", x.sets(MOST, 10), BAD);
        due("nothing was done", x.counts(), 0, 0, 3, 60, 50, 100, 0, 0, 0, 0, 0);
        due("BAD is ahead of STATE", x.sets(4, 100), BAD);
    }

    private static void undone() {
        Told x = new Told("a.");
        due("none at first", x.undo(), STATE);
        x.wide('a', 7);
        x.hangs('.', 6);
        x.sets(GAP, 5);
        x.wide('a', 1);
        due("the fourth", x.undo(), 3);
        due("as it was ahead of it", x.wide('a', 7), STATE);
        due("the third", x.undo(), 2);
        due("as it was ahead of it", x.count(2), 3);
        due("the second", x.undo(), 1);
        due("as it was ahead of it", x.hangs('.', 0), STATE);
        due("the first", x.undo(), 0);
        due("as it was ahead of it", x.wide('a', 4), STATE);
        due("none any more", x.undo(), STATE);
        due("and none again", x.undo(), STATE);
        due("one anew", x.sets(GAP, 9), 3);
        due("is undone", x.undo(), 0);
    }

    private static void refusedAreNotUndone() {
        Told x = new Told("a.");
        x.sets(MEASURE, 33);
        x.wide('a', 4);
        x.wide('a', 10);
        x.wide('/', 1);
        x.hangs('.', 0);
        x.hangs('.', 11);
        x.hangs('a', 1);
        x.sets(MEASURE, 33);
        x.sets(MEASURE, 9);
        x.sets(4, 1);
        due("one", x.count(9), 1);
        due("that one", x.undo(), 0);
        due("is undone", x.count(3), 60);
        x.puts(0);
        x.sees(0, 1);
        x.type('b');
        x.keep(0);
        x.takes();
        x.forget();
        x.clear();
        due("no other call can be", x.undo(), STATE);
    }

    private static void tenAreKnown() {
        Told ten = new Told();
        for (int i = 1; i <= 10; i++) ten.sets(MEASURE, 100 + i);
        due("ten", ten.count(9), 10);
        for (int i = 9; i >= 0; i--) due("undo, " + i + " more", ten.undo(), i);
        due("all are undone", ten.count(3), 60);
        due("no more", ten.undo(), STATE);
        Told eleven = new Told();
        eleven.wide('a', 9);
        for (int i = 1; i <= 10; i++) eleven.sets(MEASURE, 100 + i);
        due("eleven", eleven.count(9), 10);
        due("undo", eleven.undo(), 9);
        due("the latest", eleven.count(3), 109);
        eleven.hangs('.', 1);
        due("ten again", eleven.count(9), 10);
        for (int i = 9; i >= 0; i--) due("undo, " + i + " more", eleven.undo(), i);
        due("the hang", eleven.hangs('.', 0), STATE);
        due("ten of eleven are undone", eleven.count(3), 60);
        due("the oldest is lost", eleven.wide('a', 9), STATE);
        due("no more of eleven", eleven.undo(), STATE);
        Told many = new Told();
        for (int i = 1; i <= 100; i++) many.sets(MEASURE, 100 + i);
        for (int i = 9; i >= 0; i--) due("undo, " + i + " more", many.undo(), i);
        due("ten of a hundred", many.count(3), 190);
        due("no more of a hundred", many.undo(), STATE);
    }

    private static void kept() {
        Told x = new Told("a");
        due("-1", x.keep(-1), BAD);
        due("2", x.keep(2), BAD);
        due("least", x.keep(LEAST), BAD);
        due("most", x.keep(MOST), BAD);
        due("none was kept in 0", x.back(0), STATE);
        due("none was kept in 1", x.back(1), STATE);
        x.sets(MEASURE, 10);
        due("0", x.keep(0), 10);
        x.sets(MEASURE, 200);
        due("1", x.keep(1), 200);
        due("it can be undone still", x.undo(), 1);
        due("0 is that", x.back(0), 10);
        due("1 is that", x.back(1), 200);
        x.sets(MEASURE, 77);
        due("0 anew", x.keep(0), 77);
        x.sets(MEASURE, 78);
        due("0 is the new one", x.back(0), 77);
        due("1 is the old one", x.back(1), 200);
    }

    /** All that can be set, a value of its own each, told apart by a step. */
    private static void setAll(Told x, int step) {
        for (int i = 0; i < PLAIN_SIGNS.length(); i++) x.wide(PLAIN_SIGNS.charAt(i), (i + step) % 10);
        for (int i = 0; i < MARKS.length(); i++) x.hangs(MARKS.charAt(i), (i + step) % 11);
        x.sets(GAP, 1 + step);
        x.sets(MEASURE, 10 + step);
        x.sets(PARTED, 20 + step);
        x.sets(AGAIN, 30 + step);
    }

    private static void isAll(String when, Told x, int step) {
        for (int i = 0; i < PLAIN_SIGNS.length(); i++) {
            char sign = PLAIN_SIGNS.charAt(i);
            due(when + " width of " + sign, x.widthOf(sign), (i + step) % 10);
        }
        for (int i = 0; i < MARKS.length(); i++) {
            char mark = MARKS.charAt(i);
            due(when + " hang of " + mark, x.hangOf(mark), (i + step) % 11);
        }
        due(when + " counts", x.counts(), 0, 0, 1 + step, 10 + step, 20 + step, 30 + step, 0, 0, 0, x.count(9), 0);
    }

    private static void allIsKept() {
        Told x = new Told();
        setAll(x, 1);
        due("0", x.keep(0), 11);
        setAll(x, 5);
        due("1", x.keep(1), 15);
        setAll(x, 8);
        due("back to 0", x.back(0), 11);
        isAll("0", x, 1);
        due("back to 1", x.back(1), 15);
        isAll("1", x, 5);
        due("back to 0 again", x.back(0), 11);
        isAll("0 again", x, 1);
    }

    private static void nothingElseIsKept() {
        Told x = new Told("ab cd/e");
        x.puts(0);
        x.sees(1, 1);
        x.type('q');
        x.keep(0);
        x.puts(1);
        x.puts(2);
        x.sees(1, 0);
        x.sees(0, 1);
        x.write("rs");
        x.sets(MEASURE, 61);
        due("back", x.back(0), 60);
        due("all else stays", x.counts(), 2, 3, 3, 60, 50, 100, 3, 3, 3, 0, 2);
        due("the DRAFT's last", x.takes(), 2);
        due("nothing can be undone", x.undo(), STATE);
        x.sets(GAP, 7);
        due("but what comes behind it", x.undo(), 0);
        due("as the image has it", x.count(2), 3);
        due("no more", x.undo(), STATE);
        x.keep(1);
        due("words are not kept", x.words(), 1);
        due("it is the new one", x.word(0, 0), 'q');
    }

    private static void noImage() {
        Told x = new Told("a");
        x.sets(MEASURE, 70);
        due("0", x.back(0), STATE);
        due("1", x.back(1), STATE);
        due("BAD is ahead of STATE: -1", x.back(-1), BAD);
        due("2", x.back(2), BAD);
        due("least", x.back(LEAST), BAD);
        due("most", x.back(MOST), BAD);
        due("nothing changed", x.counts(), 1, 1, 3, 70, 50, 100, 0, 0, 0, 1, 1);
        x.keep(1);
        due("0 still", x.back(0), STATE);
        due("it can be undone, as 0 was refused", x.count(9), 1);
        due("1 was kept", x.back(1), 70);
        due("it can't be undone", x.count(9), 0);
        due("and again", x.back(1), 70);
        Told y = new Told("a");
        y.keep(0);
        due("only 0 was kept", y.back(1), STATE);
        due("0", y.back(0), 60);
    }

    private static void anewAllAsAtFirst() {
        Told x = new Told("ab");
        setAll(x, 7);
        x.write("c");
        due("words", x.words(), 1);
        due("counts", x.counts(), 1, 1, 3, 60, 50, 100, 0, 0, 0, 0, 1);
        for (char sign : LETTERS.toCharArray()) due("width of " + sign, x.widthOf(sign), 4);
        for (char mark : MARKS.toCharArray()) due("hang of " + mark, x.hangs(mark, 1), 0);
        for (char mark : MARKS.toCharArray()) due("width of " + mark, x.widthOf(mark), 2);
        setAll(x, 2);
        due("told by no text", x.words(), 0);
        due("as wide as at first", x.widthOf('a'), 4);
        due("hangs as at first", x.hangOf('.'), 0);
        due("measure at first", x.count(3), 60);
    }

    private static void anewNothingIsLeft() {
        Told x = new Told("ab cd");
        x.puts(0);
        x.puts(1);
        for (int i = 0; i < 6; i++) x.sees(1, i % 2);
        due("old", x.unseenAll(), 0, NONE, NONE);
        x.sets(MEASURE, 99);
        x.keep(0);
        x.keep(1);
        x.write("ab cd");
        due("words", x.words(), 2);
        due("no DRAFT", x.takes(), STATE);
        due("which is judged so", x.judgedAll(), 2, 0, NONE);
        due("and begins anew", x.puts(0), 1);
        due("nothing is SEEN", x.unseen(0), 191);
        due("and there is room", x.sees(1, 1), 1);
        due("cd begins a line by 10 to 18", x.unseenAll(), 9, 10, 18);
        due("0 is gone", x.back(0), STATE);
        due("1 is gone", x.back(1), STATE);
        due("nothing can be UNDONE", x.undo(), STATE);
    }

    private static void counts() {
        Told x = new Told("a/b a ab a");
        x.sets(GAP, 4);
        x.sets(MEASURE, 61);
        x.sets(PARTED, 51);
        x.sets(AGAIN, 101);
        x.wide('a', 1);
        x.puts(2);
        for (int i = 0; i < 6; i++) x.sees(0, 1);
        x.write("abcdefgh");
        due("counts", x.counts(), 4, 5, 4, 61, 51, 101, 1, 6, 8, 5, 2);
        due("-1", x.count(-1), BAD);
        due("11", x.count(11), BAD);
        due("least", x.count(LEAST), BAD);
        due("most", x.count(MOST), BAD);
    }
}
