/** The boundaries of THE PAGE, its LINES, BLANKS and RIVERS (Terms 2; promises 12 to 15). */
public final class PageBoundariesTest extends Sentences {
    private static final int GAP = 0, MEASURE = 1, PARTED = 2, AGAIN = 3;

    public static void main(String[] args) {
        test("A LINE goes from behind the PLACE ahead of it (the first from the beginning) to its own.",
            PageBoundariesTest::fromTheBeginning);
        test("without blanks ahead of its first and behind its last WORD", PageBoundariesTest::noBlanksAtTheEdges);
        test("and a - more (of that WIDTH, that HANG), if it ends at a /.", PageBoundariesTest::oneMoreAtASlash);
        test("NATURAL: the WIDTHS of all these, and a GAP for each blank.", PageBoundariesTest::natural);
        test("HUNG: if its last SIGN is a MARK: WIDTH times HANG by 10, cut; else 0.", PageBoundariesTest::hung);
        test("LEFT: MEASURE and HUNG less NATURAL.", PageBoundariesTest::leastAndMostLeft);
        test("A LINE can be, if LEFT is not below 0.", PageBoundariesTest::canBe);
        test("Its COST: LEFT times LEFT (0 of the last LINE)", PageBoundariesTest::squares);
        test("PARTED more, if it ends at a /", PageBoundariesTest::parted);
        test("AGAIN more, if that one and the one ahead of it do.", PageBoundariesTest::again);
        test("A PAGE: LINES from the beginning to the end that can be.", PageBoundariesTest::noPage);
        test("THE PAGE: that of the least COST", PageBoundariesTest::leastCost);
        test("of several one with the fewest LINES", PageBoundariesTest::fewestLines);
        test("of these the one whose first LINE ends at the later PLACE, then the second one ...",
            PageBoundariesTest::laterEnds);
        test("(No WORDS: no LINES, COST 0.)", PageBoundariesTest::noWords);
        test("each is a GAP and LEFT by the number of blanks, cut, wide; the first ones, as many as are left over, 1 more.",
            PageBoundariesTest::shares);
        test("Without blanks, and in the last LINE: nothing goes anywhere (blanks are GAPS; END is NATURAL).",
            PageBoundariesTest::nothingGoes);
        test("A BLANK of it is from where the WORD ahead of it ends to where the next one begins.",
            PageBoundariesTest::blanksOfParts);
        test("each BLANK having more than a point in common with the one above it.", PageBoundariesTest::aPoint);
        test("RIVER: BLANKS, one in each of so many LINES, one LINE under the other", PageBoundariesTest::aLineBetween);
        test("LONG of a BLANK: of how many LINES the longest RIVER is that begins with it.", PageBoundariesTest::longest);
        test("if it has nothing in common with any BLANK of the LINE above (more than a point)",
            PageBoundariesTest::springsAndTheLineAbove);
        test("and is LONG 3 or more.", PageBoundariesTest::longEnoughForASpring);
        test("ROUGH: of all LINES but the last by how much END differs from MEASURE and HUNG, together.",
            PageBoundariesTest::rough);
        test("5 the greatest LONG (0: no BLANKS); NONE: there is no PAGE. BAD.", PageBoundariesTest::pageAnswers);
        test("0 its COST, 1 LINES, 2 how many of these end at a /", PageBoundariesTest::mostLines);
        test("6 END; NONE: there is no PAGE (then for each k from 0 on). BAD (not so many LINES, too).",
            PageBoundariesTest::noSuchLine);
        test("NONE: there is no PAGE (then for each k, i from 0 on), not so many BLANKS.", PageBoundariesTest::noSuchBlank);
        test("BAD (not so many LINES).", PageBoundariesTest::noSuchLineOfBlanks);
        test("LEFT of a LINE from behind a PLACE (-1: from the beginning) to a later one. NO: BAD.",
            PageBoundariesTest::noSuchLeft);
        end();
    }

    private static Told by(int measure, String text) {
        Told x = new Told(text);
        x.sets(MEASURE, measure);
        return x;
    }

    /** Letters a .. i are 1 .. 9 wide; two with a GAP between make a full LINE of 13, if 10 wide together. */
    private static Told stepped(String text) {
        Told x = by(13, text);
        for (int width = 1; width <= 9; width++) x.wide('a' + width - 1, width);
        return x;
    }

    private static void fromTheBeginning() {
        Told x = new Told("ab/c def");
        due("from the beginning to a /", x.leftOf(-1, 0), 60 - 10);
        due("from the beginning to a word's end", x.leftOf(-1, 1), 60 - 12);
        due("from the beginning to the end", x.leftOf(-1, 2), 60 - 27);
        due("from behind a /", x.leftOf(0, 1), 60 - 4);
        due("from behind a / to the end", x.leftOf(0, 2), 60 - 19);
        due("from behind a word", x.leftOf(1, 2), 60 - 12);
        due("the only line is from the beginning to the end", x.line(0, 1), 27);
    }

    private static void noBlanksAtTheEdges() {
        Told x = by(10, "  ab   cd ");
        due("ends", x.ends(), 0, 1);
        due("the first", x.lineAll(0), 0, 8, 0, 2, 4, 0, 8);
        due("the last", x.lineAll(1), 1, 8, 0, 2, 0, 0, 8);
        x.sets(GAP, 9);
        due("whatever the GAP is", x.lineAll(0), 0, 8, 0, 2, 4, 0, 8);
    }

    private static void oneMoreAtASlash() {
        Told x = by(10, "ab/cd");
        due("a - more", x.lineAll(0), 0, 10, 0, 0, 50, 0, 10);
        due("none at a word's end", x.line(1, 1), 8);
        x.wide('-', 3);
        due("too wide now", x.page(0), NONE);
        x.hangs('-', 10);
        due("it hangs", x.lineAll(0), 0, 11, 3, 2, 54, 0, 11);
        x.wide('-', 0);
        due("0 wide", x.lineAll(0), 0, 8, 0, 2, 54, 0, 8);
        x.sets(MEASURE, 16);
        due("none at a / within a line", x.lineAll(0), 1, 16, 0, 0, 0, 0, 16);
        Told y = new Told("a-/b");
        due("a - of its own, too", y.leftOf(-1, 0), 60 - 4 - 2 - 2);
    }

    private static void natural() {
        Told x = new Told("a b c");
        due("two blanks", x.line(0, 1), 12 + 6);
        x.sets(GAP, 1);
        due("the least GAP", x.line(0, 1), 12 + 2);
        x.sets(GAP, 9);
        due("the greatest GAP", x.line(0, 1), 12 + 18);
        x.wideAll("abc", 0);
        due("signs 0 wide", x.line(0, 1), 18);
        x.wideAll("abc", 9);
        due("signs 9 wide", x.line(0, 1), 27 + 18);
        due("one sign, no blank", new Told("'").line(0, 1), 2);
    }

    private static void hung() {
        int[][] widthTenthsHung = {{9, 1, 0}, {9, 2, 1}, {9, 5, 4}, {9, 9, 8}, {9, 10, 9}, {0, 10, 0}, {1, 9, 0},
            {1, 10, 1}, {2, 4, 0}, {2, 5, 1}, {5, 1, 0}, {5, 2, 1}, {7, 10, 7}, {7, 0, 0}};
        Told x = new Told("a, b");
        for (int[] row : widthTenthsHung) {
            x.wide(',', row[0]);
            x.hangs(',', row[1]);
            due(row[0] + " wide by " + row[1] + " tenths", x.leftOf(-1, 0), 60 - 4 - row[0] + row[2]);
        }
        x.hangs(',', 10);
        due("a mark that is not the last sign", x.leftOf(-1, 1), 60 - 4 - 7 - 3 - 4);
        due("a letter at the end", x.line(0, 2), 0);
        Told y = new Told("a,/b,b a-");
        y.hangs(',', 10);
        due("the last sign is the - at the /", y.leftOf(-1, 0), 60 - 8);
        y.hangs('-', 10);
        due("which hangs", y.leftOf(-1, 0), 60 - 8 + 2);
        due("as one of its own does", y.line(0, 2), 2);
        due("a mark within a word does not", y.leftOf(0, 1), 60 - 10);
    }

    private static void leastAndMostLeft() {
        Told wide = new Told(("i".repeat(16) + " ").repeat(11) + "i".repeat(13));
        wide.wide('i', 9);
        wide.sets(GAP, 9);
        wide.sets(MEASURE, 10);
        due("189 signs and 11 blanks, all 9 wide", wide.leftOf(-1, 11), 10 - 1800);
        Told narrow = by(200, ". a");
        narrow.wide('.', 0);
        due("nothing wide", narrow.leftOf(-1, 0), 200);
        narrow.wide('.', 9);
        narrow.hangs('.', 10);
        due("all of it hangs", narrow.leftOf(-1, 0), 200);
        due("0", by(11, "a b").leftOf(-1, 1), 0);
        due("below 0", by(10, "a b").leftOf(-1, 1), -1);
    }

    private static void canBe() {
        Told x = by(12, "aaa");
        due("0 is left, the last line", x.lineAll(0), 0, 12, 0, 0, 0, 0, 12);
        x.sets(MEASURE, 11);
        due("1 too wide, the last line", x.page(1), NONE);
        Told y = by(12, "aaa b");
        due("0 is left, not the last line", y.lineAll(0), 0, 12, 0, 0, 0, 0, 12);
        y.sets(MEASURE, 11);
        due("1 too wide, not the last line", y.page(1), NONE);
        Told z = by(12, "aaa. b");
        z.hangs('.', 10);
        due("0 is left by what hangs", z.line(0, 3), 0);
        z.hangs('.', 9);
        due("1 too wide by what hangs", z.page(1), NONE);
        Told w = by(10, "a/b c");
        w.wide('a', 2);
        w.wide('b', 8);
        w.wide('-', 9);
        due("a- can't be, ab can", w.ends(), 1, 2);
        Told v = by(12, "bb/, bb");
        v.wide('b', 6);
        v.wide(',', 9);
        v.hangs(',', 10);
        due("bb- can't be, bb, can: all of the , hangs", v.ends(), 1, 2);
        Told u = by(10, "a/bb. c");
        u.wide('a', 0);
        u.wide('.', 9);
        u.hangs('.', 10);
        u.sets(GAP, 9);
        due("abb. is 17 wide, 9 of them hang", u.lineAll(0), 1, 17, 9, 2, 4, 0, 17);
        Told t = by(20, "aaaa b b b b b cccc");
        t.wide('b', 1);
        due("many narrow words behind a wide one", t.ends(), 0, 5, 6);
        due("leave 4 and 3", t.page(0), 16 + 9);
        Told two = by(20, "aaaa aaaa b b b b b cccc");
        two.wide('b', 1);
        due("behind two wide ones", two.ends(), 0, 1, 6, 7);
        Told most = by(200, "a ".repeat(30));
        most.wide('a', 0);
        most.sets(GAP, 6);
        due("thirty words in a line", most.ends(), 29);
        most.sets(GAP, 7);
        due("29 blanks are 3 too wide", most.ends(), 28, 29);
        Told parts = by(10, "a/a/a/a/a/a/a/a ".repeat(12) + "a/a/a/a");
        parts.wide('a', 0);
        parts.sets(GAP, 1);
        due("a hundred PLACES, 12 blanks", parts.ends(), 87, 99);
        parts.sets(MEASURE, 12);
        due("in a line", parts.ends(), 99);
    }

    private static void squares() {
        due("0 is left", by(12, "aaa bbb").pageAll(), 0, 2, 0, 0, 0, 0);
        due("1 is left", by(13, "aaa bbb").pageAll(), 1, 2, 0, 1, 0, 0);
        Told x = by(20, "aaa bbb");
        due("8 are left", x.line(0, 4), 64);
        due("8 are left in the last line", x.line(1, 3), 8);
        due("which costs 0", x.line(1, 4), 0);
        due("together", x.page(0), 64);
        due("one line is the last", by(200, "a").pageAll(), 0, 1, 0, 0, 0, 0);
        Told most = by(146, ". " + "i".repeat(16));
        most.wide('.', 0);
        most.wide('i', 9);
        due("all is left", most.lineAll(0), 0, 0, 0, 146, 146 * 146, 0, 0);
    }

    private static void parted() {
        Told x = by(10, "ab/cd");
        due("50 at first", x.page(0), 50);
        due("of that line", x.line(0, 4), 50);
        due("not of the next", x.line(1, 4), 0);
        x.sets(PARTED, 0);
        due("0", x.page(0), 0);
        x.sets(PARTED, 999);
        due("999", x.page(0), 999);
        x.sets(MEASURE, 16);
        due("not for a / within a line", x.page(0), 0);
    }

    private static void again() {
        Told x = by(10, "aa/bb/cc/dd");
        due("the first", x.line(0, 4), 50);
        due("the second", x.line(1, 4), 150);
        due("the third", x.line(2, 4), 150);
        due("the last", x.line(3, 4), 0);
        x.sets(AGAIN, 0);
        due("0", x.page(0), 150);
        x.sets(AGAIN, 999);
        due("999", x.page(0), 150 + 2 * 999);
        Told y = by(10, "aa/bb cc/dd");
        due("a word's end is between", y.page(0), 50 + 4 + 50);
        due("nothing more of a line that ends at a word's end", y.line(1, 4), 4);
        due("nor of the one behind it", y.line(2, 4), 50);
    }

    private static void noPage() {
        Told x = by(12, "aaa bbb");
        due("all can be", x.page(1), 2);
        x.wide('b', 5);
        due("the last can't be", x.page(1), NONE);
        x.undo();
        x.wide('a', 5);
        due("the first can't be", x.page(1), NONE);
        x.undo();
        due("all can be again", x.page(1), 2);
        Told y = by(12, "aaa bbb ccc");
        y.wide('b', 5);
        due("one between can't be", y.page(1), NONE);
        y.sets(MEASURE, 15);
        due("it can", y.page(1), 3);
        // The longest WORD there can be is a LINE by 144.
        Told z = by(144, "i".repeat(16));
        z.wide('i', 9);
        due("the widest word", z.page(1), 1);
        z.sets(MEASURE, 143);
        due("1 too wide", z.page(1), NONE);
    }

    private static void leastCost() {
        // "aaa b" would leave 1 and "cc" 12; "aaa" leaves 8 and "b cc" 5.
        Told x = by(20, "aaa b cc dddd");
        due("the fullest first line is not the best", x.ends(), 0, 2, 3);
        due("cost", x.page(0), 64 + 25);
        // By 14 b|aa- is the only way; by 16 b|aaaa costs 100; by 19 b aa-|aa costs PARTED, b|aaaa 169.
        Told y = by(14, "b aa/aa");
        y.wide('b', 6);
        due("aaaa can't be", y.ends(), 0, 1, 2);
        y.sets(MEASURE, 16);
        due("aaaa costs nothing", y.ends(), 0, 2);
        y.sets(MEASURE, 19);
        due("PARTED is cheaper", y.ends(), 1, 2);
        y.sets(PARTED, 168);
        due("by 1", y.ends(), 1, 2);
        y.sets(PARTED, 170);
        due("PARTED is dearer by 1", y.ends(), 0, 2);
    }

    private static void fewestLines() {
        // bba b|b aab|bba a leaves 3, 2; bba b b|aa-|b bba|a leaves 0, 2, 3, and ends its first LINE later.
        Told x = by(13, "bba b b aa/b bba a");
        x.wide('a', 3);
        x.wide('b', 2);
        x.wide('-', 5);
        x.sets(GAP, 1);
        x.sets(PARTED, 0);
        x.sets(AGAIN, 0);
        due("cost", x.page(0), 13);
        due("three lines, not four", x.ends(), 1, 4, 6);
        Told y = by(10, "a/a");
        y.wide('a', 1);
        y.wide('-', 9);
        y.sets(PARTED, 0);
        due("one line, not two", y.ends(), 1);
    }

    private static void laterEnds() {
        // aa a|aa and aa|a aa leave 0 and 7 each.
        Told x = by(15, "aa a aa zzz");
        due("cost", x.page(0), 49);
        due("the later first end", x.ends(), 1, 2, 3);
        Told y = by(15, "aaa aa a aa zzz");
        due("cost with one ahead", y.page(0), 9 + 49);
        due("the later second end", y.ends(), 0, 2, 3, 4);
        Told z = by(15, "aa a aa zzz aa a aa zzz");
        due("the later ones of both", z.ends(), 1, 2, 3, 5, 6, 7);
    }

    private static void noWords() {
        Told x = new Told();
        due("a new object's page", x.pageAll(), 0, 0, 0, 0, 0, 0);
        due("no first line", x.line(0, 0), BAD);
        x.sets(MEASURE, 10);
        due("by the least measure", x.pageAll(), 0, 0, 0, 0, 0, 0);
        Told y = by(10, "aaa");
        due("no page", y.page(0), NONE);
        due("told by no text", y.words(), 0);
        due("there is one", y.pageAll(), 0, 0, 0, 0, 0, 0);
    }

    private static void shares() {
        Told x = by(25, "a b c d eeeeee f");
        int[][] measureAndBlanks = {{25, 4, 7, 11, 14, 18, 21}, {26, 4, 8, 12, 15, 19, 22}, {27, 4, 8, 12, 16, 20, 23},
            {28, 4, 8, 12, 16, 20, 24}, {29, 4, 9, 13, 17, 21, 25}, {30, 4, 9, 13, 18, 22, 26}};
        for (int[] row : measureAndBlanks) {
            x.sets(MEASURE, row[0]);
            due("ends by " + row[0], x.ends(), 3, 4, 5);
            for (int i = 0; i < 3; i++) {
                due("blank " + i + " by " + row[0] + " begins", x.blank(0, i, 0), row[1 + 2 * i]);
                due("blank " + i + " by " + row[0] + " ends", x.blank(0, i, 1), row[2 + 2 * i]);
            }
            due("END by " + row[0], x.line(0, 6), row[0]);
        }
        Told one = by(20, "a b cccc");
        due("one blank takes all", one.blankAll(0, 0), 4, 16, 1, 0);
        Told hung = by(20, "a b. cccc");
        hung.hangs('.', 10);
        due("and what hangs", hung.blankAll(0, 0), 4, 16, 1, 0);
        due("END is past the measure", hung.line(0, 6), 22);
    }

    private static void nothingGoes() {
        Told x = by(30, "a b c d eeeeeee f g");
        due("a line without blanks", x.lineAll(1), 4, 28, 0, 2, 4, 0, 28);
        due("the last line", x.lineAll(2), 6, 11, 0, 19, 0, 1, 11);
        due("its blank is a GAP", x.blankAll(2, 0), 4, 7, 1, 0);
        x.sets(MEASURE, 200);
        due("the only line", x.lineAll(0), 6, 70, 0, 130, 0, 6, 70);
        due("its last blank", x.blankAll(0, 5), 63, 66, 1, 0);
    }

    private static void blanksOfParts() {
        Told x = by(14, "aa/bb/c d eee");
        x.sets(PARTED, 0);
        x.sets(AGAIN, 0);
        due("ends", x.ends(), 0, 1, 3, 4);
        due("no blank of a part alone", x.blank(0, 0, 0), NONE);
        due("behind a part of a word", x.blankAll(2, 0), 4, 10, 1, 0);
        x.sets(MEASURE, 32);
        due("ends by 32", x.ends(), 3, 4);
        due("behind / within a line", x.blankAll(0, 0), 20, 28, 1, 0);
    }

    private static int[] longs(Told x) {
        int[] all = new int[x.page(1)];
        for (int k = 0; k < all.length; k++) all[k] = x.blank(k, 0, 2);
        return all;
    }

    private static int[] springs(Told x) {
        int[] all = new int[x.page(1)];
        for (int k = 0; k < all.length; k++) all[k] = x.blank(k, 0, 3);
        return all;
    }

    private static void aPoint() {
        Told left = stepped("d f a i");
        due("above, 4 .. 7", left.blankAll(0, 0), 4, 7, 1, 0);
        due("below, 1 .. 4", left.blankAll(1, 0), 1, 4, 1, 0);
        Told right = stepped("d f g c");
        due("below, 7 .. 10", right.blankAll(1, 0), 7, 10, 1, 0);
        due("a point on the right", longs(right), 1, 1);
        due("1 on the left, 2 .. 5", longs(stepped("d f b h")), 2, 1);
        due("1 on the right, 6 .. 9", longs(stepped("d f f d")), 2, 1);
        due("the same", longs(stepped("d f d f")), 2, 1);
        due("apart", longs(stepped("a i i a")), 1, 1);
        Told within = stepped("a c d f");
        due("1 .. 10", within.blankAll(0, 0), 1, 10, 2, 0);
        due("within the one above it", longs(within), 2, 1);
        due("about the one above it", longs(stepped("d f a c d f")), 3, 2, 1);
        due("in the last line it is a GAP, 1 .. 4", longs(stepped("d f a c")), 1, 1);
    }

    private static void aLineBetween() {
        Told x = stepped("d f d f id d f d f d f");
        due("ends", x.ends(), 1, 3, 4, 6, 8, 10);
        due("none goes through a line without blanks", longs(x), 2, 1, NONE, 3, 2, 1);
        Told y = stepped("d f a i d f");
        due("none goes past a line where it meets nothing", longs(y), 1, 1, 1);
    }

    private static void longest() {
        due("the last line's", stepped("d f").blank(0, 0, 2), 1);
        due("six lines", longs(stepped("d f d f d f d f d f d f")), 6, 5, 4, 3, 2, 1);
        Told second = stepped("a c d a b h b");
        due("ends", second.ends(), 1, 4, 6);
        due("by the second below it", second.blank(0, 0, 2), 3);
        due("the first goes no further", second.blankAll(1, 0), 4, 7, 1, 0);
        due("the second does", second.blankAll(1, 1), 8, 11, 2, 0);
        Told first = stepped("a c d a b d f");
        due("by the first below it", first.blank(0, 0, 2), 3);
        due("the first does", first.blankAll(1, 0), 4, 7, 2, 0);
        due("the second goes no further", first.blankAll(1, 1), 8, 11, 1, 0);
        due("as many lines as there can be of two words", by(11, "a b ".repeat(15)).blank(0, 0, 2), 15);
    }

    private static void springsAndTheLineAbove() {
        due("no line above", springs(stepped("d f d f d f")), 1, 0, 0);
        due("a point on the left", springs(stepped("a i d f d f d f")), 0, 1, 0, 0);
        due("a point on the right", springs(stepped("g c d f d f d f")), 0, 1, 0, 0);
        due("1 on the left", springs(stepped("b h d f d f d f")), 1, 0, 0, 0);
        due("1 on the right", springs(stepped("f d d f d f d f")), 1, 0, 0, 0);
        due("a line without blanks", springs(stepped("id d f d f d f")), NONE, 1, 0, 0);
        Told second = stepped("d a b h b h b h b");
        due("the second above it", new int[] {second.blank(0, 0, 3), second.blank(0, 1, 3), second.blank(1, 0, 3)}, 0, 1, 0);
        Told first = stepped("d a b d f d f d f");
        due("the first above it", new int[] {first.blank(0, 0, 3), first.blank(0, 1, 3), first.blank(1, 0, 3)}, 1, 0, 0);
        Told many = stepped("d f d f d f id d f d f d f");
        due("how many", many.page(4), 2);
        many.sets(MEASURE, 26);
        many.sets(MEASURE, 13);
        due("how many again", many.page(4), 2);
        Told gone = stepped("d f d f d f");
        due("one", gone.page(4), 1);
        gone.sets(MEASURE, 10);
        due("none without blanks", gone.page(4), 0);
    }

    private static void longEnoughForASpring() {
        Told one = stepped("d f");
        due("1", one.blankAll(0, 0), 4, 7, 1, 0);
        due("1 makes none", one.page(4), 0);
        Told two = stepped("d f d f");
        due("2", two.blankAll(0, 0), 4, 7, 2, 0);
        due("2 make none", two.page(4), 0);
        Told three = stepped("d f d f d f");
        due("3", three.blankAll(0, 0), 4, 7, 3, 1);
        due("3 make one", three.page(4), 1);
        Told four = stepped("d f d f d f d f");
        due("4", springs(four), 1, 0, 0, 0);
        due("4 make one", four.page(4), 1);
        Told six = stepped("d f d f d f d f d f d f");
        due("6, of which each has one above but the first", springs(six), 1, 0, 0, 0, 0, 0);
        due("6 make one", six.page(4), 1);
    }

    private static void rough() {
        due("the only line is the last", by(200, "a").page(3), 0);
        Told x = by(14, "aaa, bbb c");
        x.hangs(',', 10);
        due("ends", x.ends(), 0, 1, 2);
        due("END is short of what hangs, too", x.line(0, 6), 14);
        due("2 and 2; nothing of the last", x.page(3), 4);
        x.hangs(',', 0);
        due("0 and 2", x.page(3), 2);
        Told y = by(15, "a a, bbb");
        y.hangs(',', 10);
        due("a line with blanks ends past the measure", y.line(0, 6), 17);
        due("which is not rough", y.page(3), 0);
        due("eleven times 2", by(66, ("i".repeat(16) + " ").repeat(11) + "i").page(3), 11 * 2);
    }

    private static void pageAnswers() {
        due("no BLANKS", by(60, "aaa").page(5), 0);
        due("one BLANK", by(60, "aaa b").page(5), 1);
        Told x = by(12, "aaa b");
        due("no BLANKS in two lines", x.page(5), 0);
        Told y = new Told("a b c");
        due("two BLANKS", y.page(5), 1);
        y.sets(MEASURE, 10);
        due("no BLANKS any more", y.page(5), 0);
        y.sets(MEASURE, 11);
        due("one BLANK again", y.page(5), 1);
        due("what -1", x.page(-1), BAD);
        due("what 6", x.page(6), BAD);
        due("what least", x.page(LEAST), BAD);
        due("what most", x.page(MOST), BAD);
        x.sets(MEASURE, 11);
        due("no page", x.pageAll(), NONE, NONE, NONE, NONE, NONE, NONE);
        due("no page, what -1", x.page(-1), BAD);
        due("no page, what 6", x.page(6), BAD);
        due("no WORDS, what 6", new Told().page(6), BAD);
    }

    private static void mostLines() {
        Told x = by(10, "a/b/c/d/e/f/g/h ".repeat(12) + "a/b/c/d");
        x.wideAll("abcdefgh", 9);
        x.wide('-', 1);
        x.sets(PARTED, 999);
        x.sets(AGAIN, 999);
        // Of each WORD of eight parts: PARTED seven times, AGAIN six times, 1 for the last part.
        int word = 7 * 999 + 6 * 999 + 1;
        due("each sign is a line", x.pageAll(), 12 * word + 3 * 999 + 2 * 999, 100, 12 * 7 + 3, 12, 0, 0);
        due("the last", x.lineAll(99), 99, 9, 0, 1, 0, 0, 9);
        due("none behind it", x.line(100, 0), BAD);
        due("none of them ends at a /", by(60, "a/b c").page(2), 0);
        Told y = by(10, "a/a/a/a/a/a/a/a ".repeat(12) + "a/a/y z");
        y.wide('a', 9);
        y.wide('-', 1);
        y.wide('y', 2);
        y.wide('z', 1);
        due("99 lines", y.page(1), 99);
        due("the last has the only blank", y.lineAll(98), 99, 6, 0, 4, 0, 1, 6);
        due("which is there", y.blankAll(98, 0), 2, 5, 1, 0);
        due("the line above has none", y.blank(97, 0, 0), NONE);
        due("the greatest LONG", y.page(5), 1);
    }

    private static void noSuchLine() {
        Told x = by(12, "aaa b");
        due("the last", x.line(1, 0), 1);
        due("not so many", x.line(2, 0), BAD);
        due("k -1", x.line(-1, 0), BAD);
        due("k least", x.line(LEAST, 0), BAD);
        due("k most", x.line(MOST, 0), BAD);
        due("what -1", x.line(0, -1), BAD);
        due("what 7", x.line(0, 7), BAD);
        due("what least", x.line(0, LEAST), BAD);
        due("what most", x.line(0, MOST), BAD);
        due("no WORDS, no line", new Told().line(0, 0), BAD);
        x.sets(MEASURE, 11);
        due("no page", x.lineAll(0), NONE, NONE, NONE, NONE, NONE, NONE, NONE);
        due("no page, k 2", x.line(2, 0), NONE);
        due("no page, k most", x.line(MOST, 6), NONE);
        due("no page, k -1", x.line(-1, 0), BAD);
        due("no page, what 7", x.line(0, 7), BAD);
        due("no page, what -1", x.line(0, -1), BAD);
    }

    private static void noSuchBlank() {
        Told x = by(20, "a b cccc d");
        due("ends", x.ends(), 1, 2, 3);
        due("the only one", x.blank(0, 0, 0), 4);
        due("not so many", x.blankAll(0, 1), NONE, NONE, NONE, NONE);
        due("far behind", x.blank(0, MOST, 3), NONE);
        due("none in a line of one word", x.blankAll(1, 0), NONE, NONE, NONE, NONE);
        due("none in such a last line", x.blank(2, 0, 0), NONE);
        due("i -1", x.blank(0, -1, 0), BAD);
        due("i least", x.blank(0, LEAST, 0), BAD);
        due("what -1", x.blank(0, 0, -1), BAD);
        due("what 4", x.blank(0, 0, 4), BAD);
        due("what least", x.blank(0, 0, LEAST), BAD);
        due("what most", x.blank(0, 0, MOST), BAD);
        due("BAD is ahead of NONE", x.blank(0, 1, 4), BAD);
        x.sets(MEASURE, 15);
        due("no page", x.blankAll(0, 0), NONE, NONE, NONE, NONE);
        due("no page, each k, i", x.blank(MOST, MOST, 0), NONE);
        due("no page, k -1", x.blank(-1, 0, 0), BAD);
        due("no page, i -1", x.blank(0, -1, 0), BAD);
        due("no page, what 4", x.blank(0, 0, 4), BAD);
    }

    private static void noSuchLineOfBlanks() {
        Told x = by(20, "a b cccc d");
        due("3", x.blank(3, 0, 0), BAD);
        due("3, far behind", x.blank(3, MOST, 0), BAD);
        due("-1", x.blank(-1, 0, 0), BAD);
        due("least", x.blank(LEAST, 0, 0), BAD);
        due("most", x.blank(MOST, 0, 0), BAD);
        due("the last there is", x.blank(2, 0, 0), NONE);
        due("no WORDS, no line", new Told().blank(0, 0, 0), BAD);
    }

    private static void noSuchLeft() {
        Told x = new Told("a/b c");
        due("all", x.leftOf(-1, 2), 60 - 15);
        due("the last", x.leftOf(1, 2), 60 - 4);
        due("from -2", x.leftOf(-2, 0), NO);
        due("from least", x.leftOf(LEAST, 0), NO);
        due("the same", x.leftOf(0, 0), NO);
        due("the same, last", x.leftOf(2, 2), NO);
        due("an earlier one", x.leftOf(1, 0), NO);
        due("the beginning", x.leftOf(-1, -1), NO);
        due("to 3", x.leftOf(-1, 3), NO);
        due("from the last to none", x.leftOf(2, 3), NO);
        due("to most", x.leftOf(0, MOST), NO);
        due("from most", x.leftOf(MOST, LEAST), NO);
        due("both behind all", x.leftOf(7, 8), NO);
        due("no WORDS", new Told().leftOf(-1, 0), NO);
        x.wideAll("abc", 9);
        x.sets(MEASURE, 10);
        x.sets(GAP, 9);
        due("without a page", x.leftOf(0, 2), 10 - 27);
    }
}
