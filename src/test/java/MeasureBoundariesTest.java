/** The boundaries of the DRAFT, of what is ALIKE, SEEN and UNSEEN (Terms 3; promises 16 to 22). */
public final class MeasureBoundariesTest extends Sentences {
    private static final int GAP = 0, MEASURE = 1, PARTED = 2, AGAIN = 3;
    // By 14, 15 and 17 its LINES are aaa-|a a-|a. a; by 16 aaaa|aa.|a; by 18 to 25 aaaa|aa. a.
    private static final String TO_AND_FRO = "aaa/a a/a. a";
    // Each WORD of eight a is 8 wide; only PLACES behind the 64th tell its PAGES by 10 to 18 apart.
    private static final String FAR_PLACES = "a/a/a/a/a/a/a/a ".repeat(12) + "bb bb";

    public static void main(String[] args) {
        test("A DRAFT: PLACES one behind the other, rising (told by calls).", MeasureBoundariesTest::rising);
        test("A PLACE behind the DRAFT: how many it has. BAD (not behind the last one, too).", MeasureBoundariesTest::noSuchPlace);
        test("The DRAFT's last PLACE goes: which. STATE: none.", MeasureBoundariesTest::taken);
        test("JUDGED: its first LINE that is wrong, and why", MeasureBoundariesTest::firstWrong);
        test("1 it can't be (LEFT is below 0)", MeasureBoundariesTest::canNotBe);
        test("2 there is none any more, though the last PLACE was not come to", MeasureBoundariesTest::endsTooSoon);
        test("none: it is a PAGE.", MeasureBoundariesTest::isAPage);
        test("1 the LINE (0 on; by 2 the one behind the DRAFT's last; NONE: it is a PAGE)", MeasureBoundariesTest::whichLine);
        test("2 by how much it COSTS more than THE PAGE (NONE: it is none). BAD.", MeasureBoundariesTest::costsMore);
        test("ALIKE of a MEASURE: there is THE PAGE by it", MeasureBoundariesTest::alikeOnlyWithAPage);
        test("and it has LINES that end at the same PLACES as THE PAGE as it is.", MeasureBoundariesTest::sameEnds);
        test("MEASURES (10 .. 200) that are ALIKE", MeasureBoundariesTest::leastAndGreatestAlike);
        test("the greatest (2); NONE: there is no PAGE. BAD.", MeasureBoundariesTest::noAlike);
        test("SEEN (6 at most)", MeasureBoundariesTest::sixAreSeen);
        test("a WORD begins a LINE (its first SIGN is the LINE's), or does not", MeasureBoundariesTest::beginsALine);
        test("by an unknown MEASURE (with all else as it is NOW).", MeasureBoundariesTest::allElseAsNow);
        test("SEEN (begins 1, 0): how much there is. BAD; FULL: 6.", MeasureBoundariesTest::noSuchSight);
        test("Nothing is SEEN: how much was.", MeasureBoundariesTest::forgotten);
        test("UNSEEN: MEASURES (10 .. 200) by which there is a PAGE", MeasureBoundariesTest::unseenOnlyWithAPage);
        test("and all that was SEEN is so of THE PAGE.", MeasureBoundariesTest::allThatWasSeen);
        test("the greatest (2); NONE (what 1, 2). BAD.", MeasureBoundariesTest::noUnseen);
        end();
    }

    private static Told by(int measure, String text) {
        Told x = new Told(text);
        x.sets(MEASURE, measure);
        return x;
    }

    private static void draft(Told x, int... places) {
        while (x.takes() != STATE) continue;
        for (int place : places) x.puts(place);
    }

    private static void rising() {
        Told x = new Told("a/b c d");
        due("the first may be any", x.puts(1), 1);
        due("the same", x.puts(1), BAD);
        due("an earlier one", x.puts(0), BAD);
        due("the next", x.puts(2), 2);
        due("the last", x.puts(3), 3);
        due("none is behind it", x.puts(3), BAD);
        due("three", x.count(6), 3);
        draft(x);
        due("the first of all", x.puts(0), 1);
        due("it again", x.puts(0), BAD);
        due("not the next one, but the last", x.puts(3), 2);
        Told y = new Told("a/b/c/d/e/f/g/h ".repeat(12) + "a/b/c/d");
        for (int place = 0; place < 100; place++) due("all of 100", y.puts(place), place + 1);
        due("a hundred", y.count(6), 100);
        due("no more", y.puts(100), BAD);
        due("the last again", y.puts(99), BAD);
    }

    private static void noSuchPlace() {
        Told x = new Told("a b");
        due("-1", x.puts(-1), BAD);
        due("2", x.puts(2), BAD);
        due("least", x.puts(LEAST), BAD);
        due("most", x.puts(MOST), BAD);
        due("none was put", x.count(6), 0);
        due("no WORDS", new Told().puts(0), BAD);
        due("one", x.puts(0), 1);
        due("-1 behind it", x.puts(-1), BAD);
        due("2 behind it", x.puts(2), BAD);
        due("one stays", x.count(6), 1);
    }

    private static void taken() {
        Told x = new Told("a b c");
        due("none", x.takes(), STATE);
        draft(x, 0, 2);
        due("the last", x.takes(), 2);
        due("one is left", x.count(6), 1);
        due("one ahead of the taken one", x.puts(1), 2);
        due("that", x.takes(), 1);
        due("the first", x.takes(), 0);
        due("none any more", x.takes(), STATE);
        due("none is left", x.count(6), 0);
        due("anew from the first", x.puts(0), 1);
        due("no WORDS", new Told().takes(), STATE);
    }

    private static void firstWrong() {
        Told x = by(12, "aaa bbb ccc");
        draft(x, 1, 2);
        due("the first of one", x.judgedAll(), 1, 0, NONE);
        draft(x, 0, 2);
        due("the second", x.judgedAll(), 1, 1, NONE);
        x.sets(MEASURE, 11);
        draft(x, 0, 1, 2);
        due("the first of three", x.judgedAll(), 1, 0, NONE);
        x.wide('a', 1);
        x.wide('c', 1);
        due("the one between", x.judgedAll(), 1, 1, NONE);
        x.wide('b', 1);
        x.wide('c', 4);
        due("the last", x.judgedAll(), 1, 2, NONE);
        draft(x, 0);
        x.wide('a', 4);
        due("1 is ahead of 2", x.judgedAll(), 1, 0, NONE);
    }

    private static void canNotBe() {
        Told x = by(18, "aaa bb/bb, c");
        draft(x, 0, 2, 3);
        due("0 is left", x.judgedAll(), 0, NONE, 0);
        x.sets(MEASURE, 17);
        due("1 too wide", x.judgedAll(), 1, 1, NONE);
        x.hangs(',', 5);
        due("1 hangs", x.judgedAll(), 0, NONE, 0);
        Told last = by(16, "a bbbb");
        draft(last, 0, 1);
        due("0 is left in the last", last.judgedAll(), 0, NONE, 0);
        last.sets(MEASURE, 15);
        due("the last is 1 too wide", last.judgedAll(), 1, 1, NONE);
        Told parted = by(10, "aa/b");
        draft(parted, 0, 1);
        due("0 is left with a -", parted.judgedAll(), 0, NONE, 0);
        parted.wide('-', 3);
        due("1 too wide by a -", parted.judgedAll(), 1, 0, NONE);
    }

    private static void endsTooSoon() {
        Told x = by(20, "aaa bbb ccc");
        due("nothing was told", x.judgedAll(), 2, 0, NONE);
        draft(x, 0);
        due("one line", x.judgedAll(), 2, 1, NONE);
        draft(x, 0, 1);
        due("two lines", x.judgedAll(), 2, 2, NONE);
        draft(x, 0, 1, 2);
        due("the last PLACE was come to", x.judged(0), 0);
        Told y = by(20, "a/b");
        draft(y, 0);
        due("the last / is not the last PLACE", y.judgedAll(), 2, 1, NONE);
        Told z = by(10, "aaa");
        due("nothing was told, though there is no page", z.judgedAll(), 2, 0, NONE);
    }

    private static void isAPage() {
        due("no WORDS, no DRAFT", new Told().judgedAll(), 0, NONE, 0);
        Told x = by(12, "aaa bbb");
        draft(x, 0, 1);
        due("two lines", x.judgedAll(), 0, NONE, 0);
        Told y = by(200, "a");
        draft(y, 0);
        due("one line", y.judgedAll(), 0, NONE, 0);
    }

    private static void whichLine() {
        Told x = by(12, "aaa bbb ccc");
        due("by 2, behind nothing", x.judged(1), 0);
        draft(x, 0, 1);
        due("by 2, behind the second", x.judged(1), 2);
        draft(x, 0, 1, 2);
        due("a page", x.judged(1), NONE);
        draft(x, 0, 2);
        due("by 1, the second", x.judged(1), 1);
        draft(x, 2);
        due("by 1, the first", x.judged(1), 0);
    }

    private static void costsMore() {
        Told x = by(18, "a b c");
        draft(x, 2);
        due("THE PAGE", x.judged(2), 0);
        draft(x, 0, 1, 2);
        due("two lines of 14 left", x.judged(2), 2 * 14 * 14);
        draft(x, 1, 2);
        due("7 are left", x.judged(2), 7 * 7);
        draft(x, 1);
        due("it is none", x.judged(2), NONE);
        x.sets(MEASURE, 17);
        draft(x, 1, 2);
        due("THE PAGE by 17", x.judged(2), 0);
        draft(x, 0, 2);
        due("13 are left, not 6", x.judged(2), 13 * 13 - 6 * 6);
        due("what -1", x.judged(-1), BAD);
        due("what 3", x.judged(3), BAD);
        due("what least", x.judged(LEAST), BAD);
        due("what most", x.judged(MOST), BAD);
        Told y = by(10, "aa/bb/cc");
        draft(y, 0, 1, 2);
        due("THE PAGE, parted again", y.judged(2), 0);
        y.sets(MEASURE, 24);
        due("PARTED, PARTED, AGAIN and what is left", y.judged(2), 50 + 150 + 2 * 14 * 14);
        // Another PAGE may cost as much.
        Told z = by(15, "aa a aa zzz");
        draft(z, 0, 2, 3);
        due("as much", z.judged(2), 0);
    }

    private static void alikeOnlyWithAPage() {
        Told x = by(60, "aaa");
        due("from 12 on", x.alikeAll(), 189, 12, 200);
        x.wideAll("a", 9);
        due("from 27 on", x.alikeAll(), 174, 27, 200);
        Told y = by(14, TO_AND_FRO);
        y.sets(GAP, 4);
        y.sets(PARTED, 10);
        y.sets(AGAIN, 10);
        due("none by 13", y.alike(1), 14);
    }

    private static void sameEnds() {
        Told x = by(14, TO_AND_FRO);
        x.sets(GAP, 4);
        x.sets(PARTED, 10);
        x.sets(AGAIN, 10);
        due("14, 15 and 17", x.alikeAll(), 3, 14, 17);
        x.sets(MEASURE, 15);
        due("by 15", x.alikeAll(), 3, 14, 17);
        x.sets(MEASURE, 17);
        due("by 17", x.alikeAll(), 3, 14, 17);
        x.sets(MEASURE, 16);
        due("16 alone, of as many lines", x.alikeAll(), 1, 16, 16);
        x.sets(MEASURE, 18);
        due("18 to 25", x.alikeAll(), 8, 18, 25);
        Told far = by(12, FAR_PLACES);
        far.wide('a', 1);
        far.wide('b', 3);
        far.sets(PARTED, 999);
        due("each word a line", far.alikeAll(), 5, 10, 14);
        far.sets(MEASURE, 15);
        due("bb bb", far.alikeAll(), 2, 15, 16);
        far.sets(MEASURE, 17);
        due("aaaaaaaa bb", far.alikeAll(), 2, 17, 18);
    }

    private static void leastAndGreatestAlike() {
        due("all of them", new Told("a").alikeAll(), 191, 10, 200);
        due("no WORDS", new Told().alikeAll(), 191, 10, 200);
        due("the least alone", by(10, "a b c").alikeAll(), 1, 10, 10);
        Told x = by(200, "i".repeat(16) + " iiiii.");
        x.wide('i', 9);
        x.sets(GAP, 9);
        due("the greatest alone", x.alikeAll(), 1, 200, 200);
        x.wide('.', 3);
        due("two lines by all that are wide enough", x.alikeAll(), 57, 144, 200);
    }

    private static void noAlike() {
        Told x = by(11, "aaa");
        due("no page", x.alikeAll(), NONE, NONE, NONE);
        due("no page, what -1", x.alike(-1), BAD);
        due("no page, what 3", x.alike(3), BAD);
        x.sets(MEASURE, 12);
        due("there is one", x.alikeAll(), 189, 12, 200);
        due("what -1", x.alike(-1), BAD);
        due("what 3", x.alike(3), BAD);
        due("what least", x.alike(LEAST), BAD);
        due("what most", x.alike(MOST), BAD);
    }

    private static void sixAreSeen() {
        Told x = new Told("a b c");
        for (int i = 1; i <= 6; i++) due("the " + i + "th", x.sees(0, 1), i);
        due("the 7th", x.sees(1, 1), FULL);
        due("six stay", x.count(7), 6);
        due("the 7th was not seen", x.unseenAll(), 191, 10, 200);
        due("forget", x.forget(), 6);
        due("room again", x.sees(2, 1), 1);
        due("the six are not seen", x.unseenAll(), 8, 10, 17);
    }

    private static void beginsALine() {
        Told x = new Told("a b c");
        x.sees(0, 1);
        due("the first word does by each", x.unseenAll(), 191, 10, 200);
        x.forget();
        x.sees(0, 0);
        due("it never does not", x.unseenAll(), 0, NONE, NONE);
        x.forget();
        x.sees(2, 1);
        due("the last word does", x.unseenAll(), 8, 10, 17);
        x.forget();
        x.sees(2, 0);
        due("the last word does not", x.unseenAll(), 183, 18, 200);
        // By 14, 15 and 17 a part of a WORD begins the second LINE, and the WORD behind it none.
        Told y = new Told(TO_AND_FRO);
        y.sets(GAP, 4);
        y.sets(PARTED, 10);
        y.sets(AGAIN, 10);
        y.sees(1, 1);
        due("16 and 18 to 25", y.unseenAll(), 9, 16, 25);
        y.forget();
        y.sees(1, 0);
        due("14, 15, 17 and from 26 on", y.unseenAll(), 3 + 175, 14, 200);
        // The WORD behind PLACE 63, and the one behind PLACE 64.
        String eight = "a/a/a/a/a/a/a/a ".repeat(8) + "bb bb";
        due("behind the 64th", seenFar(eight, 1, 8).unseenAll(), 7, 10, 16);
        Told next = seenFar("a " + eight, 1, 9);
        due("behind the 65th", next.unseenAll(), 2, 10, 11);
        next.forget();
        next.sees(1, 0);
        next.sees(9, 1);
        due("behind the 65th, but not behind the first", next.unseen(1), 12);
        next.forget();
        next.sees(9, 0);
        due("not behind the 65th", next.unseen(1), 17);
        Told far = new Told(FAR_PLACES);
        far.wide('a', 1);
        far.wide('b', 3);
        far.sets(PARTED, 999);
        far.sees(11, 1);
        far.sees(12, 0);
        far.sees(13, 1);
        due("behind the 64th PLACE", far.unseenAll(), 2, 17, 18);
    }

    /** Two WORDS begin LINES, and none is parted. */
    private static Told seenFar(String text, int one, int other) {
        Told x = new Told(text);
        x.wide('a', 1);
        x.wide('b', 3);
        x.sets(PARTED, 999);
        x.sees(one, 1);
        x.sees(other, 1);
        return x;
    }

    private static void allElseAsNow() {
        Told x = new Told("a b c");
        x.sees(2, 1);
        due("by 10 to 17", x.unseenAll(), 8, 10, 17);
        x.sets(MEASURE, 200);
        due("whatever the measure is", x.unseenAll(), 8, 10, 17);
        x.wide('c', 9);
        due("c is wider", x.unseenAll(), 13, 10, 22);
        x.sets(GAP, 9);
        due("blanks are wider", x.unseenAll(), 25, 10, 34);
        x.undo();
        x.undo();
        due("undone", x.unseenAll(), 8, 10, 17);
        x.keep(0);
        x.wide('c', 0);
        due("c is nothing: by 10 it is a|b c", x.unseenAll(), 3, 11, 13);
        x.back(0);
        due("back", x.unseenAll(), 8, 10, 17);
        // HANG, PARTED and AGAIN count, too.
        Told y = new Told("aa. b");
        y.sees(1, 1);
        due("aa. b is 17 wide", y.unseenAll(), 7, 10, 16);
        y.wide('b', 9);
        y.wide('a', 5);
        due("aa. is 12 wide", y.unseenAll(), 12, 12, 23);
        y.hangs('.', 10);
        due("but 2 hang", y.unseenAll(), 14, 10, 23);
        Told z = new Told("aa bb/c");
        z.sees(1, 1);
        due("parted from 21 on", z.unseen(2), 20);
        z.sets(PARTED, 0);
        z.sets(AGAIN, 999);
        due("AGAIN is of no line", z.unseen(2), 20);
        z.sets(PARTED, 999);
        due("hardly ever parted", z.unseen(2), 22);
    }

    private static void noSuchSight() {
        Told x = new Told("a b c");
        due("word -1", x.sees(-1, 1), BAD);
        due("word 3", x.sees(3, 1), BAD);
        due("word least", x.sees(LEAST, 1), BAD);
        due("word most", x.sees(MOST, 1), BAD);
        due("begins -1", x.sees(0, -1), BAD);
        due("begins 2", x.sees(0, 2), BAD);
        due("begins least", x.sees(0, LEAST), BAD);
        due("begins most", x.sees(0, MOST), BAD);
        due("nothing was seen", x.count(7), 0);
        due("no WORDS", new Told().sees(0, 1), BAD);
        due("the first word", x.sees(0, 1), 1);
        due("the last word", x.sees(2, 0), 2);
        due("the same", x.sees(2, 0), 3);
        due("what can't be, too", x.sees(2, 1), 4);
        x.sees(1, 0);
        x.sees(1, 1);
        due("FULL", x.sees(0, 1), FULL);
        due("BAD is ahead of FULL: word", x.sees(3, 1), BAD);
        due("BAD is ahead of FULL: begins", x.sees(0, 2), BAD);
    }

    private static void forgotten() {
        Told x = new Told("a b c");
        due("nothing", x.forget(), 0);
        x.sees(0, 0);
        due("one", x.forget(), 1);
        due("nothing any more", x.forget(), 0);
        due("nothing holds", x.unseenAll(), 191, 10, 200);
        for (int i = 0; i < 6; i++) x.sees(0, 0);
        due("six", x.forget(), 6);
        due("count", x.count(7), 0);
    }

    private static void unseenOnlyWithAPage() {
        due("all", new Told("a").unseenAll(), 191, 10, 200);
        due("no WORDS", new Told().unseenAll(), 191, 10, 200);
        due("none by 10 and 11, though it is 10", by(10, "aaa").unseenAll(), 189, 12, 200);
        Told widest = new Told("i".repeat(16) + " iiiii.");
        widest.wide('i', 9);
        widest.sets(GAP, 9);
        due("the widest word", widest.unseenAll(), 57, 144, 200);
        widest.sees(1, 0);
        due("one line by the greatest alone", widest.unseenAll(), 1, 200, 200);
        widest.wide('.', 3);
        due("by none", widest.unseenAll(), 0, NONE, NONE);
        Told x = new Told("a b c");
        x.sees(1, 1);
        due("by the least alone", x.unseenAll(), 1, 10, 10);
    }

    private static void allThatWasSeen() {
        Told x = new Told("a b c");
        for (int i = 0; i < 5; i++) x.sees(2, 1);
        due("five", x.unseenAll(), 8, 10, 17);
        x.sees(1, 0);
        due("the sixth, too", x.unseenAll(), 7, 11, 17);
        Told y = new Told("a b c");
        y.sees(1, 0);
        for (int i = 0; i < 5; i++) y.sees(2, 1);
        due("the first, too", y.unseenAll(), 7, 11, 17);
        Told z = new Told("a b c");
        z.sees(2, 1);
        z.sees(2, 0);
        due("what can't be", z.unseenAll(), 0, NONE, NONE);
        due("nothing SEEN holds of each", new Told("a b c").unseenAll(), 191, 10, 200);
    }

    private static void noUnseen() {
        Told x = by(10, "a b c");
        x.sees(0, 0);
        due("none", x.unseenAll(), 0, NONE, NONE);
        due("what -1", x.unseen(-1), BAD);
        due("what 3", x.unseen(3), BAD);
        due("what least", x.unseen(LEAST), BAD);
        due("what most", x.unseen(MOST), BAD);
    }
}
