import java.util.ArrayList;
import java.util.List;
import java.util.function.Consumer;
import java.util.function.ToIntFunction;

/**
 * Each refused call changes nothing: two objects are told the same, one of them is asked for what
 * it refuses as well, and then all that can be asked of both must be the same.
 */
public final class RefusalBoundariesTest extends Sentences {
    private static final String SIGNS = LETTERS + MARKS;

    /** A call, what it answers, and the state in which it does. */
    private record Refused(String call, int due, Consumer<Told> state, ToIntFunction<Told> asked) {
    }

    private static final List<Refused> ALL = new ArrayList<>();

    public static void main(String[] args) {
        test("BAD (a number is not as told, or there is no such thing)", RefusalBoundariesTest::bad);
        test("STATE (as told)", RefusalBoundariesTest::state);
        test("STATE (as told), FULL.", RefusalBoundariesTest::full);
        test("-10 less FAULT: nothing changes", RefusalBoundariesTest::fault);
        test("Refused, and nothing changes, the first of these: BAD", RefusalBoundariesTest::nothingChanges);
        end();
    }

    // ---- states

    /** Something of all there is; one IMAGE, room in THE TEXT and among what is SEEN. */
    private static void busy(Told x) {
        x.write("so, un/der it so. a/b");
        x.words();
        x.wide('o', 5);
        x.wide('.', 3);
        x.hangs(',', 7);
        x.sets(0, 2);
        x.keep(0);
        x.hangs('.', 10);
        x.sets(1, 24);
        x.sets(2, 40);
        x.sets(3, 90);
        x.puts(1);
        x.puts(3);
        x.sees(1, 1);
        x.sees(4, 0);
        x.write("ab c");
    }

    /** Nothing more of anything: 200 letters (with a FAULT at the 200th), six SEEN, ten to be UNDONE. */
    private static void filled(Told x) {
        busy(x);
        x.write(" ".repeat(195) + "/");
        for (int i = 2; i < 6; i++) x.sees(2, i % 2);
        for (int i = 0; i < 10; i++) x.sets(1, 30 + i);
    }

    /** Nothing at all. */
    private static void bare(Told x) {
    }

    /** Nothing can be UNDONE and there is no DRAFT, but all else. */
    private static void restored(Told x) {
        busy(x);
        x.back(0);
        x.takes();
        x.takes();
    }

    private static void faulty(Told x) {
        busy(x);
        x.type('/');
    }

    // ---- what is refused

    private static void refused(Consumer<Told> state, String call, int due, ToIntFunction<Told> asked) {
        ALL.add(new Refused(call, due, state, asked));
    }

    private static void bad() {
        Consumer<Told> in = RefusalBoundariesTest::busy;
        refused(in, "type(256)", BAD, x -> x.type(256));
        refused(in, "type(-1)", BAD, x -> x.type(-1));
        refused(in, "word(5, 0)", BAD, x -> x.word(5, 0));
        refused(in, "different(-1, 0)", BAD, x -> x.different(-1, 0));
        refused(in, "place(7, 0)", BAD, x -> x.place(7, 0));
        refused(in, "wide(/, 3)", BAD, x -> x.wide('/', 3));
        refused(in, "wide(o, 10)", BAD, x -> x.wide('o', 10));
        refused(in, "wide(o, -1)", BAD, x -> x.wide('o', -1));
        refused(in, "hangs(o, 3)", BAD, x -> x.hangs('o', 3));
        refused(in, "hangs(., 11)", BAD, x -> x.hangs('.', 11));
        refused(in, "hangs(., -1)", BAD, x -> x.hangs('.', -1));
        for (int what = 0; what < 4; what++) {
            int w = what;
            refused(in, "sets(" + w + ", 1000)", BAD, x -> x.sets(w, 1000));
            refused(in, "sets(" + w + ", -1)", BAD, x -> x.sets(w, -1));
        }
        refused(in, "sets(4, 5)", BAD, x -> x.sets(4, 5));
        refused(in, "sets(-1, 5)", BAD, x -> x.sets(-1, 5));
        refused(in, "page(6)", BAD, x -> x.page(6));
        refused(in, "line(0, 7)", BAD, x -> x.line(0, 7));
        refused(in, "line(9, 0)", BAD, x -> x.line(9, 0));
        refused(in, "blank(9, 0, 0)", BAD, x -> x.blank(9, 0, 0));
        refused(in, "leftOf(3, 3)", NO, x -> x.leftOf(3, 3));
        refused(in, "puts(3)", BAD, x -> x.puts(3));
        refused(in, "puts(2)", BAD, x -> x.puts(2));
        refused(in, "puts(7)", BAD, x -> x.puts(7));
        refused(in, "puts(-1)", BAD, x -> x.puts(-1));
        refused(in, "judged(3)", BAD, x -> x.judged(3));
        refused(in, "alike(3)", BAD, x -> x.alike(3));
        refused(in, "sees(5, 1)", BAD, x -> x.sees(5, 1));
        refused(in, "sees(-1, 1)", BAD, x -> x.sees(-1, 1));
        refused(in, "sees(0, 2)", BAD, x -> x.sees(0, 2));
        refused(in, "unseen(3)", BAD, x -> x.unseen(3));
        refused(in, "keep(2)", BAD, x -> x.keep(2));
        refused(in, "keep(-1)", BAD, x -> x.keep(-1));
        refused(in, "back(2)", BAD, x -> x.back(2));
        refused(in, "back(-1)", BAD, x -> x.back(-1));
        refused(in, "count(11)", BAD, x -> x.count(11));
        answersAre();
    }

    private static void state() {
        Consumer<Told> in = RefusalBoundariesTest::busy;
        refused(in, "wide(o, 5)", STATE, x -> x.wide('o', 5));
        refused(in, "wide(z, 4)", STATE, x -> x.wide('z', 4));
        refused(in, "hangs(,, 7)", STATE, x -> x.hangs(',', 7));
        refused(in, "sets(0, 2)", STATE, x -> x.sets(0, 2));
        refused(in, "sets(1, 24)", STATE, x -> x.sets(1, 24));
        refused(in, "sets(2, 40)", STATE, x -> x.sets(2, 40));
        refused(in, "sets(3, 90)", STATE, x -> x.sets(3, 90));
        refused(in, "back(1)", STATE, x -> x.back(1));
        Consumer<Told> none = RefusalBoundariesTest::bare;
        refused(none, "undo()", STATE, Told::undo);
        refused(none, "takes()", STATE, Told::takes);
        refused(none, "back(0)", STATE, x -> x.back(0));
        Consumer<Told> restored = RefusalBoundariesTest::restored;
        refused(restored, "undo()", STATE, Told::undo);
        refused(restored, "takes()", STATE, Told::takes);
        refused(restored, "back(1)", STATE, x -> x.back(1));
        answersAre();
    }

    private static void full() {
        Consumer<Told> in = RefusalBoundariesTest::filled;
        refused(in, "type(a)", FULL, x -> x.type('a'));
        refused(in, "sees(0, 1)", FULL, x -> x.sees(0, 1));
        refused(in, "type(256)", BAD, x -> x.type(256));
        refused(in, "sees(9, 1)", BAD, x -> x.sees(9, 1));
        refused(in, "sets(1, 39), the eleventh", STATE, x -> x.sets(1, 39));
        refused(in, "sets(1, 201), the eleventh", BAD, x -> x.sets(1, 201));
        answersAre();
    }

    private static void fault() {
        refused(RefusalBoundariesTest::faulty, "words()", -14, Told::words);
        refused(RefusalBoundariesTest::filled, "words()", -209, Told::words);
        answersAre();
    }

    private static void answersAre() {
        for (Refused r : ALL) {
            Told x = new Told();
            r.state().accept(x);
            due(r.call(), r.asked().applyAsInt(x), r.due());
        }
    }

    // ---- all that can be asked, in looks that stay below 512 calls each

    private static void nothingChanges() {
        for (Refused r : ALL) {
            for (int look = 0; look < 8; look++) {
                Told x = new Told();
                Told y = new Told();
                r.state().accept(x);
                r.state().accept(y);
                r.asked().applyAsInt(x);
                due(r.call() + ", look " + look, look(x, look), look(y, look));
            }
        }
    }

    private static int[] look(Told x, int look) {
        List<Integer> all = new ArrayList<>();
        switch (look) {
            case 0: numbers(x, all); break;
            case 1: script(x, all); break;
            case 2: widths(x, all); break;
            case 3: undone(x, all); break;
            case 4: image(x, 0, all); break;
            case 5: image(x, 1, all); break;
            case 6: draftAndSeen(x, all); break;
            default: text(x, all); break;
        }
        return all.stream().mapToInt(Integer::intValue).toArray();
    }

    private static void add(List<Integer> all, int... some) {
        for (int one : some) all.add(one);
    }

    private static void numbers(Told x, List<Integer> all) {
        add(all, x.counts());
        add(all, x.pageAll());
        add(all, x.judgedAll());
        add(all, x.alikeAll());
        add(all, x.unseenAll());
        int lines = Math.max(1, x.page(1));
        for (int k = 0; k < lines; k++) {
            add(all, x.lineAll(k));
            add(all, x.blankAll(k, 0));
        }
    }

    private static void script(Told x, List<Integer> all) {
        for (int k = 0; k < x.count(0); k++) {
            for (int i = -1; i < x.word(k, -1); i++) all.add(x.word(k, i));
        }
        for (int p = 0; p < x.count(1); p++) add(all, x.place(p, 0), x.place(p, 1), x.place(p, 2), x.leftOf(p - 1, p));
        for (int k = 0; k < x.count(10); k++) add(all, x.different(k, 0), x.different(k, 1));
    }

    private static void widths(Told x, List<Integer> all) {
        for (char sign : SIGNS.toCharArray()) all.add(x.widthOf(sign));
        for (char mark : MARKS.toCharArray()) all.add(x.hangOf(mark));
    }

    private static void undone(Told x, List<Integer> all) {
        for (int i = 0; i < 11; i++) {
            add(all, x.undo());
            for (int what = 2; what <= 5; what++) all.add(x.count(what));
        }
        widths(x, all);
    }

    private static void image(Told x, int image, List<Integer> all) {
        add(all, x.back(image));
        add(all, x.counts());
        widths(x, all);
    }

    private static void draftAndSeen(Told x, List<Integer> all) {
        for (int i = 0; i < 4; i++) all.add(x.takes());
        add(all, x.unseenAll());
        all.add(x.forget());
        add(all, x.unseenAll());
    }

    /** What THE TEXT is, is told by the WORDS it makes (a FAULT first, if there is one). */
    private static void text(Told x, List<Integer> all) {
        add(all, x.words());
        script(x, all);
        add(all, x.clear());
    }
}
