/** The boundaries of what is told: THE TEXT, WORDS, FAULT, PLACES (Terms 1; promises 1 to 7). */
public final class TextBoundariesTest extends Sentences {
    private static final String SIXTEEN = "abcdefghijklmnop";
    private static final String SIXTEEN_WITH_SLASHES = "a/b/c/d/e/f/g/hi";
    private static final String THIRTY_WORDS = "a ".repeat(30);
    // As many PLACES as there can be: every second letter is a / or a blank.
    private static final String MOST_PLACES = "a/b/c/d/e/f/g/h ".repeat(12) + "a/b/c/d";

    public static void main(String[] args) {
        test("No WORDS.", TextBoundariesTest::aNewObject);
        test("A letter (0 .. 255) comes to THE TEXT: how many it has. BAD", TextBoundariesTest::letters);
        test("FULL: 200.", TextBoundariesTest::fullText);
        test("They are a text (200 letters at most), told letter by letter", TextBoundariesTest::aFullTextIsRead);
        test("THE TEXT is empty: how many letters it had.", TextBoundariesTest::cleared);
        test("THE TEXT tells all anew, and is empty then: how many WORDS.", TextBoundariesTest::toldAnew);
        test("THE TEXT tells all anew", TextBoundariesTest::nothingOfTheOldText);
        test("-10 less FAULT", TextBoundariesTest::firstAndLastFault);
        test("nothing changes (THE TEXT stays, too)", TextBoundariesTest::aFaultChangesNothing);
        test("letters a .. z, MARKS . , - ' and /", TextBoundariesTest::signs);
        test("WORDS 0, 1, .. (30 at most)", TextBoundariesTest::mostWords);
        test("rows of 1 to 16 SIGNS, with blanks between", TextBoundariesTest::longestWord);
        test("a / stands between two SIGNS that are not /.", TextBoundariesTest::slashes);
        test("blanks (32, any number) between WORDS.", TextBoundariesTest::blanks);
        test("FAULT: the first place at which", TextBoundariesTest::theFirstFault);
        test("there is a letter that is no SIGN and no blank", TextBoundariesTest::noSign);
        test("or a / that does not stand so", TextBoundariesTest::slashFault);
        test("or a WORD's 17th SIGN", TextBoundariesTest::seventeenth);
        test("or a 31st WORD's first SIGN.", TextBoundariesTest::thirtyFirst);
        test("No WORDS are no FAULT.", TextBoundariesTest::noWords);
        test("how many SIGNS it has, / too (i = -1)", TextBoundariesTest::howManySigns);
        test("the i-th (0 on) as it was typed; NONE.", TextBoundariesTest::signOfAWord);
        test("BAD (i below -1).", TextBoundariesTest::noSuchSign);
        test("Of a WORD: how many SIGNS", TextBoundariesTest::noSuchWord);
        test("DIFFERENT WORDS are numbered as the first one of each spelling (/ let out) comes.",
            TextBoundariesTest::spellings);
        test("0 the first WORD so spelled, 1 how many are; NONE.", TextBoundariesTest::fewAndManySpellings);
        test("BAD (k below 0).", TextBoundariesTest::noSuchSpelling);
        test("one for each / and for each WORD's end, in the order of the text.", TextBoundariesTest::places);
        test("0 its WORD, 1 how many SIGNS of it lie ahead of it, / let out, 2 whether it is a / (1, 0). BAD.",
            TextBoundariesTest::noSuchPlace);
        end();
    }

    private static int wordsOf(String text) {
        Told x = new Told();
        x.write(text);
        return x.words();
    }

    private static void aNewObject() {
        Told x = new Told();
        due("counts", x.counts(), 0, 0, 3, 60, 50, 100, 0, 0, 0, 0, 0);
        due("word(0, -1)", x.word(0, -1), BAD);
        due("different(0, 0)", x.different(0, 0), NONE);
        due("place(0, 0)", x.place(0, 0), BAD);
        due("puts(0)", x.puts(0), BAD);
        due("sees(0, 1)", x.sees(0, 1), BAD);
        due("leftOf(-1, 0)", x.leftOf(-1, 0), NO);
    }

    private static void letters() {
        Told x = new Told();
        due("type(-1)", x.type(-1), BAD);
        due("type(256)", x.type(256), BAD);
        due("type(least)", x.type(LEAST), BAD);
        due("type(most)", x.type(MOST), BAD);
        due("type(a and 256)", x.type('a' + 256), BAD);
        due("type(a less 256)", x.type('a' - 256), BAD);
        due("none came", x.count(8), 0);
        due("type(0)", x.type(0), 1);
        due("type(255)", x.type(255), 2);
        due("type(256) again", x.type(256), BAD);
        due("type(a)", x.type('a'), 3);
        due("three came", x.count(8), 3);
    }

    private static void fullText() {
        Told x = new Told();
        due("the 199th", x.write("a".repeat(199)), 199);
        due("the 200th", x.type(255), 200);
        due("the 201st", x.type('a'), FULL);
        due("another", x.type(0), FULL);
        due("BAD is ahead of FULL", x.type(256), BAD);
        due("and below", x.type(-1), BAD);
        due("200 stay", x.count(8), 200);
        due("clear", x.clear(), 200);
        due("room again", x.type('a'), 1);
    }

    private static void aFullTextIsRead() {
        Told x = new Told();
        x.write(" ".repeat(198) + "xy");
        due("the 201st", x.type('z'), FULL);
        due("words", x.words(), 1);
        due("the 201st did not come", x.word(0, -1), 2);
        due("the 200th did", x.word(0, 1), 'y');
        due("the text is empty", x.count(8), 0);
        due("and takes letters", x.type('a'), 1);
    }

    private static void cleared() {
        Told x = new Told();
        due("of an empty one", x.clear(), 0);
        x.type('B');
        due("of one letter", x.clear(), 1);
        due("of none again", x.clear(), 0);
        due("words of nothing", x.words(), 0);
        x.write("a".repeat(200));
        due("of 200", x.clear(), 200);
        due("count", x.count(8), 0);
        x.write("ab");
        due("the first letter is at 0 again", x.words(), 1);
        x.type('c');
        x.clear();
        due("WORDS stay", x.word(0, -1), 2);
    }

    private static void toldAnew() {
        due("none", wordsOf(""), 0);
        due("one", wordsOf("a"), 1);
        due("thirty", wordsOf(THIRTY_WORDS), 30);
        Told x = new Told("ab cd/ef ab");
        due("the text is empty", x.count(8), 0);
        x.write("gh");
        due("anew", x.words(), 1);
        due("one word, one place, one spelling", x.counts(), 1, 1, 3, 60, 50, 100, 0, 0, 0, 0, 1);
        due("its first sign", x.word(0, 0), 'g');
        due("no second word", x.word(1, -1), BAD);
        due("no second place", x.place(1, 0), BAD);
        due("no second spelling", x.different(1, 0), NONE);
        due("the page is that of the new word", x.line(0, 1), 8);
        due("told by an empty text", x.words(), 0);
        due("none are there", x.word(0, -1), BAD);
        due("and no line", x.page(1), 0);
    }

    /** Each answer would be another one, if anything of the text ahead of it had stayed. */
    private static void nothingOfTheOldText() {
        Told x = new Told("a/b a ab/c d ab e");
        due("all of the old one", x.pageAll(), 0, 1, 0, 0, 0, 1);
        due("which measures", x.alike(0) + x.unseen(0), 146 + 191);
        x.write("xx y xx z/z w");
        due("words", x.words(), 5);
        int[][] places = {{0, 2, 0}, {1, 1, 0}, {2, 2, 0}, {3, 1, 1}, {3, 2, 0}, {4, 1, 0}};
        for (int p = 0; p < places.length; p++) due("place " + p, placeAll(x, p), places[p]);
        int[][] different = {{0, 2}, {1, 1}, {3, 1}, {4, 1}, {NONE, NONE}};
        for (int k = 0; k < different.length; k++) {
            due("different " + k, new int[] {x.different(k, 0), x.different(k, 1)}, different[k]);
        }
        due("the only line", x.lineAll(0), 5, 8 + 4 + 8 + 8 + 4 + 4 * 3, 0, 60 - 44, 0, 4, 44);
        x.sees(1, 1);
        due("y begins a line by 10 to 14", x.unseenAll(), 5, 10, 14);
        x.sets(1, 10);
        due("ends", x.ends(), 0, 1, 2, 4, 5);
        due("page", x.pageAll(), 4 + 36 + 4 + 4, 5, 0, 2 + 6 + 2 + 2, 0, 0);
        due("alike", x.alikeAll(), 5, 10, 14);
        Told y = new Told("a b a b a b a b");
        y.sets(1, 12);
        due("four lines and a river", y.pageAll(), 3, 4, 0, 0, 1, 4);
        y.write("a b");
        due("two words", y.words(), 2);
        due("one line and no river", y.pageAll(), 0, 1, 0, 0, 0, 1);
        due("its blank", y.blankAll(0, 0), 4, 7, 1, 0);
    }

    private static void firstAndLastFault() {
        due("at 0", wordsOf("B"), -10);
        due("at 1", wordsOf("aB"), -11);
        due("at 199", wordsOf(" ".repeat(199) + "B"), -209);
        due("at 199, a /", wordsOf(" ".repeat(198) + "a/"), -209);
        due("the last letter may be a sign", wordsOf(" ".repeat(199) + "b"), 1);
    }

    private static void aFaultChangesNothing() {
        Told x = new Told("ab cd");
        x.wide('a', 9);
        x.hangs('.', 8);
        x.sets(0, 4);
        x.sets(1, 70);
        x.sets(2, 1);
        x.sets(3, 2);
        x.keep(0);
        x.puts(1);
        x.sees(0, 1);
        x.write("x/");
        due("words", x.words(), -11);
        due("and again", x.words(), -11);
        due("counts", x.counts(), 2, 2, 4, 70, 1, 2, 1, 1, 2, 6, 2);
        due("a sign", x.word(0, 0), 'a');
        due("the width", x.leftOf(-1, 0), 70 - 13);
        due("the hang", x.hangs('.', 8), STATE);
        due("the text goes on", x.type('y'), 3);
        due("undo", x.undo(), 5);
        due("the image", x.back(0), 70);
        due("words", x.words(), 1);
        due("of all three letters", x.word(0, -1), 3);
    }

    private static void signs() {
        for (int letter = 0; letter <= 255; letter++) {
            Told x = new Told();
            x.type(letter);
            boolean stands = letter < 128 && (LETTERS + MARKS).indexOf(letter) >= 0;
            due("words of the letter " + letter, x.words(), stands ? 1 : letter == 32 ? 0 : -10);
        }
        due("/ is a sign", wordsOf("a/b"), 1);
        due("/ is no mark", new Told().hangs('/', 1), BAD);
    }

    private static void mostWords() {
        Told x = new Told(THIRTY_WORDS);
        due("count", x.count(0), 30);
        due("the last one", x.word(29, -1), 1);
        due("none behind it", x.word(30, -1), BAD);
        due("31", wordsOf(THIRTY_WORDS + "a"), -70);
        due("30 without a blank at the end", wordsOf("a ".repeat(29) + "a"), 30);
    }

    private static void longestWord() {
        due("1", new Told("'").word(0, -1), 1);
        due("16", new Told(SIXTEEN).word(0, -1), 16);
        due("16 with /", new Told(SIXTEEN_WITH_SLASHES).word(0, -1), 16);
        due("17", wordsOf(SIXTEEN + "q"), -26);
        due("17 with /", wordsOf(SIXTEEN_WITH_SLASHES + "j"), -26);
        Told x = new Told((SIXTEEN + " ").repeat(11) + "abcdefghijklm");
        due("eleven of 16 and one of 13: 200 letters", x.count(0), 12);
        due("the eleventh", x.word(10, -1), 16);
        due("its last sign", x.word(10, 15), 'p');
        due("the last one", x.word(11, -1), 13);
    }

    private static void slashes() {
        due("between letters", wordsOf("a/z"), 1);
        for (char mark : MARKS.toCharArray()) {
            due("behind " + mark, wordsOf(mark + "/a"), 1);
            due("ahead of " + mark, wordsOf("a/" + mark), 1);
        }
        due("each second sign", wordsOf("a/b/c"), 1);
        due("in the last of 30 words", wordsOf("a ".repeat(29) + "a/a"), 30);
    }

    private static void blanks() {
        due("one", wordsOf("a b"), 2);
        due("199", wordsOf(" ".repeat(199) + "a"), 1);
        due("198 between", wordsOf("a" + " ".repeat(198) + "b"), 2);
        due("behind", wordsOf("a" + " ".repeat(199)), 1);
        Told x = new Told("  a   b  ");
        due("words", x.count(0), 2);
        due("they make one blank of a line", x.line(0, 5), 1);
        due("which is a GAP wide", x.line(0, 1), 4 + 3 + 4);
        due("a tab is none", wordsOf("a\tb"), -11);
        due("a line's end is none", wordsOf("a\nb"), -11);
        due("160 is none", wordsOf("a" + (char) 160 + "b"), -11);
    }

    private static void theFirstFault() {
        due("no sign, then a /", wordsOf("aB/"), -11);
        due("a /, then no sign", wordsOf("a/ B"), -11);
        due("a / ahead of no sign", wordsOf("a/B"), -11);
        due("a / ahead of a /", wordsOf("ab//c"), -12);
        due("no sign ahead of a /", wordsOf("abB/c"), -12);
        due("a 17th, then no sign", wordsOf(SIXTEEN + "qB"), -26);
        due("no sign ahead of a 17th", wordsOf("abcdefghijklmnoBq"), -25);
        due("a 17th, then a 31st word", wordsOf("a ".repeat(29) + SIXTEEN + "q a"), -(10 + 58 + 16));
        due("a 31st word, then a 17th", wordsOf(THIRTY_WORDS + SIXTEEN + "q"), -70);
        due("a 31st word, then no sign", wordsOf(THIRTY_WORDS + "a B"), -70);
    }

    private static void noSign() {
        for (char letter : ("`{AZ@[09!+*()\"&_" + (char) 0 + (char) 31 + (char) 33 + (char) 127 + (char) 128
            + (char) 233 + (char) 255).toCharArray()) {
            due("in a word, " + (int) letter, wordsOf("ab" + letter + "c"), -12);
            due("behind a blank, " + (int) letter, wordsOf("a " + letter), -12);
        }
        due("as a 17th", wordsOf(SIXTEEN + "B"), -26);
    }

    private static void slashFault() {
        due("at the beginning", wordsOf("/a"), -10);
        due("alone", wordsOf("/"), -10);
        due("at the end", wordsOf("a/"), -11);
        due("ahead of a blank", wordsOf("a/ b"), -11);
        due("behind a blank", wordsOf("a /b"), -12);
        due("between blanks", wordsOf("a / b"), -12);
        due("the first of two", wordsOf("a//b"), -11);
        due("the first of three", wordsOf("a///b"), -11);
        due("ahead of no sign", wordsOf("a/{"), -11);
        due("the 200th letter", wordsOf("a".repeat(9) + " ".repeat(189) + "b/"), -209);
        due("as a 31st word", wordsOf(THIRTY_WORDS + "/a"), -70);
    }

    private static void seventeenth() {
        due("of the first word", wordsOf(SIXTEEN + "q"), -26);
        due("of the first, more behind it", wordsOf(SIXTEEN + "qrst"), -26);
        due("of a later one", wordsOf("ab  " + SIXTEEN + "q"), -30);
        due("a mark", wordsOf(SIXTEEN + "."), -26);
        due("a /", wordsOf(SIXTEEN + "/q"), -26);
        due("behind a /, the 16th", wordsOf("abcdefghijklmno/q"), -26);
        due("/ counts each time", wordsOf("a/b/c/d/e/f/g/h/i"), -26);
        due("16 and 16 are none", wordsOf(SIXTEEN + " " + SIXTEEN), 2);
    }

    private static void thirtyFirst() {
        due("a letter", wordsOf(THIRTY_WORDS + "a"), -70);
        due("a mark", wordsOf(THIRTY_WORDS + "."), -70);
        due("behind more blanks", wordsOf(THIRTY_WORDS + "   a"), -73);
        due("behind blanks ahead of all", wordsOf("  " + THIRTY_WORDS + "ab"), -72);
        due("words of more signs", wordsOf("ab, ".repeat(30) + "ab,"), -130);
        due("only blanks are behind the 30th", wordsOf(THIRTY_WORDS + "   "), 30);
        due("the 30th goes on", wordsOf("a ".repeat(29) + "abc"), 30);
    }

    private static void noWords() {
        due("no text", wordsOf(""), 0);
        due("a blank", wordsOf(" "), 0);
        due("200 blanks", wordsOf(" ".repeat(200)), 0);
        Told x = new Told("ab");
        x.sets(1, 70);
        x.write("   ");
        due("blanks, behind words", x.words(), 0);
        due("all is anew", x.counts(), 0, 0, 3, 60, 50, 100, 0, 0, 0, 0, 0);
    }

    private static void howManySigns() {
        Told x = new Told("a ,b a/b " + SIXTEEN_WITH_SLASHES);
        due("one", x.word(0, -1), 1);
        due("marks are signs", x.word(1, -1), 2);
        due("/ too", x.word(2, -1), 3);
        due("most", x.word(3, -1), 16);
    }

    private static void signOfAWord() {
        Told x = new Told("-a/'z b");
        due("the first", x.word(0, 0), '-');
        due("a letter", x.word(0, 1), 'a');
        due("a /", x.word(0, 2), '/');
        due("a mark", x.word(0, 3), '\'');
        due("the last", x.word(0, 4), 'z');
        due("none behind it", x.word(0, 5), NONE);
        due("none far behind it", x.word(0, MOST), NONE);
        due("the next word's first", x.word(1, 0), 'b');
        due("none behind the last word's", x.word(1, 1), NONE);
        due("a 16th", new Told(SIXTEEN).word(0, 15), 'p');
        due("a 17th", new Told(SIXTEEN).word(0, 16), NONE);
    }

    private static void noSuchSign() {
        Told x = new Told("ab cd");
        due("-2", x.word(0, -2), BAD);
        due("-2 of the next", x.word(1, -2), BAD);
        due("least", x.word(1, LEAST), BAD);
    }

    private static void noSuchWord() {
        Told x = new Told("ab cd");
        due("-1", x.word(-1, 0), BAD);
        due("2", x.word(2, 0), BAD);
        due("2, how many", x.word(2, -1), BAD);
        due("2, far behind", x.word(2, MOST), BAD);
        due("least", x.word(LEAST, -1), BAD);
        due("most", x.word(MOST, -1), BAD);
        due("the last there is", x.word(1, 1), 'd');
    }

    private static void spellings() {
        Told x = new Told("ab a/b ab, b ba a abc b/a");
        due("count", x.count(10), 6);
        int[] firsts = {0, 2, 3, 4, 5, 6};
        int[] times = {2, 1, 1, 2, 1, 1};
        for (int k = 0; k < firsts.length; k++) {
            due("first " + k, x.different(k, 0), firsts[k]);
            due("times " + k, x.different(k, 1), times[k]);
        }
        Told y = new Told("a/b/c abc ab/c a/bc");
        due("only the / differ", y.different(0, 1), 4);
        due("one spelling", y.count(10), 1);
    }

    private static void fewAndManySpellings() {
        Told x = new Told(THIRTY_WORDS);
        due("thirty of one", x.different(0, 1), 30);
        due("no second", x.different(1, 1), NONE);
        StringBuilder text = new StringBuilder();
        for (int i = 0; i < 30; i++) text.append(i < 26 ? "" : "z").append((char) ('a' + i % 26)).append(' ');
        Told y = new Told(text.toString());
        due("thirty spellings", y.count(10), 30);
        due("the last", y.different(29, 0), 29);
        due("it is one", y.different(29, 1), 1);
        due("none behind it", y.different(30, 0), NONE);
        due("nor any of it", y.different(30, 1), NONE);
        due("far behind", y.different(MOST, 0), NONE);
        due("no WORDS, no spelling", new Told().different(0, 1), NONE);
    }

    private static void noSuchSpelling() {
        Told x = new Told("ab cd");
        due("k -1", x.different(-1, 0), BAD);
        due("k least", x.different(LEAST, 1), BAD);
        due("what -1", x.different(0, -1), BAD);
        due("what 2", x.different(0, 2), BAD);
        due("what least", x.different(0, LEAST), BAD);
        due("what most", x.different(0, MOST), BAD);
        due("BAD is ahead of NONE", x.different(2, 2), BAD);
        due("no WORDS, k -1", new Told().different(-1, 0), BAD);
    }

    private static int[] placeAll(Told x, int place) {
        return new int[] {x.place(place, 0), x.place(place, 1), x.place(place, 2)};
    }

    private static void places() {
        Told x = new Told("a/b, c d-/'/e");
        int[][] want = {{0, 1, 1}, {0, 3, 0}, {1, 1, 0}, {2, 2, 1}, {2, 3, 1}, {2, 4, 0}};
        due("count", x.count(1), want.length);
        for (int p = 0; p < want.length; p++) due("place " + p, placeAll(x, p), want[p]);
        due("one word, one place", placeAll(new Told("a"), 0), 0, 1, 0);
        Told most = new Told(MOST_PLACES);
        due("most", most.count(1), 100);
        due("the last", placeAll(most, 99), 12, 4, 0);
        due("the last but one", placeAll(most, 98), 12, 3, 1);
        due("the last of the first word", placeAll(most, 7), 0, 8, 0);
        due("the first of the next", placeAll(most, 8), 1, 1, 1);
        due("none behind the last", most.place(100, 0), BAD);
    }

    private static void noSuchPlace() {
        Told x = new Told("a/b c");
        due("place -1", placeAll(x, -1), BAD, BAD, BAD);
        due("place 3", placeAll(x, 3), BAD, BAD, BAD);
        due("place least", x.place(LEAST, 0), BAD);
        due("place most", x.place(MOST, 0), BAD);
        due("what -1", x.place(0, -1), BAD);
        due("what 3", x.place(0, 3), BAD);
        due("what least", x.place(0, LEAST), BAD);
        due("what most", x.place(0, MOST), BAD);
        due("no WORDS, no place", new Told().place(0, 0), BAD);
    }
}
