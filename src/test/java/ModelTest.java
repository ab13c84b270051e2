import java.util.ArrayList;
import java.util.Arrays;
import java.util.LinkedHashMap;
import java.util.List;
import java.util.Map;
import java.util.Random;

/**
 * Random runs of calls, each answer held against a model that follows the document's words as
 * slowly as they can be followed: LINES are texts, all PAGES of a short text are gone through.
 */
public final class ModelTest {
    private static int wrong = 0;
    private static long asked = 0;

    public static void main(String[] args) {
        for (int seed = 0; seed < 500; seed++) {
            run(seed);
        }
        System.out.println(asked + " answers, " + wrong + " wrong");
        if (wrong != 0) System.exit(1);
    }

    private static void run(int seed) {
        Random random = new Random(seed);
        HungMargins x = new HungMargins();
        Model m = new Model();
        List<String> told = new ArrayList<>();
        for (int calls = 0; calls < 512; ) {
            int before = wrong;
            if (random.nextInt(90) == 0 || calls == 0) {
                String text = seed % 60 == 59 ? denseText(random) : text(random, seed % 3);
                for (int i = 0; i < text.length() && calls < 511; i++, calls++) {
                    due(told, "type(" + (int) text.charAt(i) + ")", x.type(text.charAt(i)), m.type(text.charAt(i)));
                }
                due(told, "words()", x.words(), m.words());
                calls++;
            } else {
                one(random, x, m, told);
                calls++;
            }
            if (wrong != before) {
                System.out.println("seed " + seed + ": " + told);
                return;
            }
        }
    }

    private static String text(Random random, int kind) {
        StringBuilder b = new StringBuilder();
        int words = kind == 0 ? 1 + random.nextInt(5) : kind == 1 ? random.nextInt(14) : random.nextInt(32);
        int letters = 1 + random.nextInt(5);
        int slashes = random.nextInt(6);
        int most = 1 + random.nextInt(9);
        for (int w = 0; w < words; w++) {
            int size = 1 + random.nextInt(most);
            for (int i = 0; i < size; i++) {
                if (i > 0 && random.nextInt(9) < slashes && b.charAt(b.length() - 1) != '/') b.append('/');
                b.append(random.nextInt(5) == 0 ? ".,-'".charAt(random.nextInt(4)) : (char) ('a' + random.nextInt(letters)));
            }
            b.append(random.nextInt(8) == 0 ? "  " : " ");
        }
        if (random.nextInt(25) == 0 && b.length() > 0) {
            b.setCharAt(random.nextInt(b.length()), " /A,\u00e9{`0".charAt(random.nextInt(8)));
        }
        return b.length() > 200 ? b.substring(0, 200) : b.toString();
    }

    /** Nearly as many PLACES as there can be. */
    private static String denseText(Random random) {
        StringBuilder b = new StringBuilder();
        while (b.length() < 200) {
            b.append("ab,".charAt(random.nextInt(3))).append(b.length() % 16 == 14 ? " " : "/");
        }
        return b.substring(0, 199);
    }

    /** A number that is mostly in 0 .. most, and now and then just past it. */
    private static int near(Random random, int most) {
        int n = random.nextInt(12);
        if (n == 0) return -1;
        if (n == 1) return most + 1;
        return most < 0 ? 0 : random.nextInt(most + 1);
    }

    private static void one(Random r, HungMargins x, Model m, List<String> told) {
        int a;
        int b;
        int c;
        int places = m.places.size();
        switch (r.nextInt(34)) {
            case 0: a = near(r, 30); b = near(r, 16) - 1;
                due(told, "word(" + a + ", " + b + ")", x.word(a, b), m.word(a, b)); break;
            case 1: a = near(r, 12); b = near(r, 1);
                due(told, "different(" + a + ", " + b + ")", x.different(a, b), m.different(a, b)); break;
            case 2: a = near(r, places); b = near(r, 2);
                due(told, "place(" + a + ", " + b + ")", x.place(a, b), m.place(a, b)); break;
            case 3: case 4: a = r.nextInt(4) == 0 ? ".,-'/{`B".charAt(r.nextInt(8)) : 'a' + r.nextInt(5); b = near(r, 9);
                due(told, "wide(" + a + ", " + b + ")", x.wide(a, b), m.wide(a, b)); break;
            case 5: case 6: a = ".,-'.,-'/a".charAt(r.nextInt(10)); b = near(r, 10);
                due(told, "hangs(" + a + ", " + b + ")", x.hangs(a, b), m.hangs(a, b)); break;
            case 7: case 8: case 9: a = near(r, 3);
                b = a == 0 ? near(r, 9) : a == 1 ? (r.nextInt(3) == 0 ? 9 + near(r, 191) : 10 + r.nextInt(60)) : r.nextInt(3) == 0 ? 0 : r.nextBoolean() ? near(r, 999) : r.nextInt(60);
                due(told, "sets(" + a + ", " + b + ")", x.sets(a, b), m.sets(a, b)); break;
            case 10: case 11: due(told, "undo()", x.undo(), m.undo()); break;
            case 12: case 13: case 14: case 15: a = near(r, 5);
                due(told, "page(" + a + ")", x.page(a), m.page(a)); break;
            case 16: case 17: case 18: a = near(r, Math.max(0, m.page(1))); b = near(r, 6);
                due(told, "line(" + a + ", " + b + ")", x.line(a, b), m.line(a, b)); break;
            case 19: case 20: case 21: a = near(r, Math.max(0, m.page(1))); b = near(r, 3); c = near(r, 3);
                due(told, "blank(" + a + ", " + b + ", " + c + ")", x.blank(a, b, c), m.blank(a, b, c)); break;
            case 22: a = near(r, places) - 1; b = near(r, places);
                due(told, "leftOf(" + a + ", " + b + ")", x.leftOf(a, b), m.leftOf(a, b)); break;
            case 23: case 24: a = r.nextInt(3) == 0 ? m.line(m.draft.size(), 0) : near(r, places);
                due(told, "puts(" + a + ")", x.puts(a), m.puts(a)); break;
            case 25: due(told, "takes()", x.takes(), m.takes()); break;
            case 26: case 27: a = near(r, 2);
                due(told, "judged(" + a + ")", x.judged(a), m.judged(a)); break;
            case 28: a = near(r, 2);
                due(told, "alike(" + a + ")", x.alike(a), m.alike(a)); break;
            case 29: a = near(r, m.spelled.size()); b = near(r, 1);
                due(told, "sees(" + a + ", " + b + ")", x.sees(a, b), m.sees(a, b)); break;
            case 30: a = near(r, 2);
                due(told, "unseen(" + a + ")", x.unseen(a), m.unseen(a)); break;
            case 31: if (r.nextInt(5) == 0) due(told, "forget()", x.forget(), m.forget());
                else if (r.nextInt(5) == 0) due(told, "clear()", x.clear(), m.clear()); break;
            case 32: a = near(r, 1);
                if (r.nextBoolean()) due(told, "keep(" + a + ")", x.keep(a), m.keep(a));
                else due(told, "back(" + a + ")", x.back(a), m.back(a)); break;
            default: a = near(r, 10);
                due(told, "count(" + a + ")", x.count(a), m.count(a)); break;
        }
    }

    private static void due(List<String> told, String call, int got, int want) {
        asked++;
        told.add(call + " " + got);
        if (got != want) {
            wrong++;
            System.out.println(call + " answered " + got + ", due is " + want);
        }
    }

    /** A page with what it COSTS. */
    private static final class Page {
        int cost;
        List<Integer> ends = new ArrayList<>();

        boolean isBetterThan(Page o) {
            if (cost != o.cost) return cost < o.cost;
            if (ends.size() != o.ends.size()) return ends.size() < o.ends.size();
            for (int i = 0; i < ends.size(); i++) {
                if (!ends.get(i).equals(o.ends.get(i))) return ends.get(i) > o.ends.get(i);
            }
            return false;
        }
    }

    /** What is set, as a value. */
    private static final class Set {
        Map<Character, Integer> width = new LinkedHashMap<>();
        Map<Character, Integer> hang = new LinkedHashMap<>();
        int[] v = {3, 60, 50, 100};

        Set() {
            for (char c = 'a'; c <= 'z'; c++) width.put(c, 4);
            for (char c : ".,-'".toCharArray()) {
                width.put(c, 2);
                hang.put(c, 0);
            }
        }

        Set copy() {
            Set s = new Set();
            s.width.putAll(width);
            s.hang.putAll(hang);
            s.v = v.clone();
            return s;
        }
    }

    private static final class Model {
        static final int BAD = -1, STATE = -2, FULL = -3, NONE = -9, NO = -1000000;
        String text = "";
        List<String> spelled = new ArrayList<>();
        // {word, signs of it ahead, 1 if it is a /, index in the row of all words behind it}
        List<int[]> places = new ArrayList<>();
        Set set = new Set();
        List<Set> undone = new ArrayList<>();
        Set[] images = new Set[2];
        List<Integer> draft = new ArrayList<>();
        List<int[]> seen = new ArrayList<>();
        private final Map<Integer, Page> pages = new LinkedHashMap<>();

        int type(int c) {
            if (c < 0 || c > 255) return BAD;
            if (text.length() == 200) return FULL;
            text += (char) c;
            return text.length();
        }

        int clear() {
            int n = text.length();
            text = "";
            return n;
        }

        int words() {
            for (int i = 0; i < text.length(); i++) {
                if (isFault(i)) return -10 - i;
            }
            spelled = new ArrayList<>();
            for (String s : text.split(" +")) if (!s.isEmpty()) spelled.add(s);
            text = "";
            places = new ArrayList<>();
            for (int w = 0; w < spelled.size(); w++) {
                String s = spelled.get(w);
                for (int i = 0; i <= s.length(); i++) {
                    boolean end = i == s.length();
                    if (end || s.charAt(i) == '/') {
                        places.add(new int[] {w, s.substring(0, i).replace("/", "").length(), end ? 0 : 1, i});
                    }
                }
            }
            set = new Set();
            undone.clear();
            images = new Set[2];
            draft.clear();
            seen.clear();
            pages.clear();
            return spelled.size();
        }

        private boolean isFault(int i) {
            char c = text.charAt(i);
            if (c == ' ') return false;
            if ("abcdefghijklmnopqrstuvwxyz.,-'/".indexOf(c) < 0) return true;
            if (c == '/' && !text.substring(Math.max(0, i - 1), Math.min(text.length(), i + 2)).matches("[a-z.,'-]/[a-z.,'-]")) return true;
            String ahead = text.substring(0, i);
            String same = ahead.substring(ahead.lastIndexOf(' ') + 1);
            if (same.length() >= 16) return true;
            long words = Arrays.stream(ahead.split(" +")).filter(s -> !s.isEmpty()).count();
            return same.isEmpty() && words >= 30;
        }

        int word(int k, int i) {
            if (k < 0 || k >= spelled.size() || i < -1) return BAD;
            String s = spelled.get(k);
            return i == -1 ? s.length() : i < s.length() ? s.charAt(i) : NONE;
        }

        private Map<String, int[]> spellings() {
            Map<String, int[]> m = new LinkedHashMap<>();
            for (int w = 0; w < spelled.size(); w++) {
                String s = spelled.get(w).replace("/", "");
                m.putIfAbsent(s, new int[] {w, 0});
                m.get(s)[1]++;
            }
            return m;
        }

        int different(int k, int what) {
            if (k < 0 || what < 0 || what > 1) return BAD;
            List<int[]> all = new ArrayList<>(spellings().values());
            return k < all.size() ? all.get(k)[what] : NONE;
        }

        int place(int p, int what) {
            return p < 0 || p >= places.size() || what < 0 || what > 2 ? BAD : places.get(p)[what];
        }

        private void change() {
            undone.add(set);
            if (undone.size() > 10) undone.remove(0);
            set = set.copy();
            pages.clear();
        }

        int wide(int sign, int width) {
            if (!set.width.containsKey((char) sign) || width < 0 || width > 9) return BAD;
            int old = set.width.get((char) sign);
            if (old == width) return STATE;
            change();
            set.width.put((char) sign, width);
            return old;
        }

        int hangs(int mark, int tenths) {
            if (!set.hang.containsKey((char) mark) || tenths < 0 || tenths > 10) return BAD;
            int old = set.hang.get((char) mark);
            if (old == tenths) return STATE;
            change();
            set.hang.put((char) mark, tenths);
            return old;
        }

        int sets(int what, int v) {
            if (what < 0 || what > 3) return BAD;
            if (what == 0 && (v < 1 || v > 9)) return BAD;
            if (what == 1 && (v < 10 || v > 200)) return BAD;
            if (what > 1 && (v < 0 || v > 999)) return BAD;
            int old = set.v[what];
            if (old == v) return STATE;
            change();
            set.v[what] = v;
            return old;
        }

        int undo() {
            if (undone.isEmpty()) return STATE;
            set = undone.remove(undone.size() - 1);
            pages.clear();
            return undone.size();
        }

        /** A LINE as a text, one blank between WORDS. */
        private String lineText(int from, int to) {
            StringBuilder all = new StringBuilder();
            int last = places.get(to)[0];
            int first = from < 0 ? 0 : places.get(from)[2] == 1 ? places.get(from)[0] : places.get(from)[0] + 1;
            for (int w = first; w <= last; w++) {
                String s = spelled.get(w);
                int end = w == last ? places.get(to)[3] : s.length();
                int begin = w == first && from >= 0 && places.get(from)[2] == 1 ? places.get(from)[3] + 1 : 0;
                if (w > first) all.append(' ');
                all.append(s, begin, end);
            }
            if (places.get(to)[2] == 1) all.append('-');
            return all.toString().replace("/", "");
        }

        private int natural(String line) {
            int sum = 0;
            for (char c : line.toCharArray()) sum += c == ' ' ? set.v[0] : set.width.get(c);
            return sum;
        }

        private int hung(String line) {
            char c = line.charAt(line.length() - 1);
            return set.hang.containsKey(c) ? set.width.get(c) * set.hang.get(c) / 10 : 0;
        }

        private int left(int measure, int from, int to) {
            String line = lineText(from, to);
            return measure + hung(line) - natural(line);
        }

        private int cost(int measure, int ahead, int to) {
            if (to == places.size() - 1) return 0;
            int left = left(measure, ahead, to);
            int cost = left * left;
            if (places.get(to)[2] == 1) {
                cost += set.v[2];
                if (ahead >= 0 && places.get(ahead)[2] == 1) cost += set.v[3];
            }
            return cost;
        }

        private int[][] lefts;

        private Page pageBy(int measure) {
            if (!pages.containsKey(measure)) {
                if (pages.isEmpty()) {
                    lefts = new int[places.size() + 1][places.size()];
                    for (int f = -1; f < places.size(); f++) {
                        for (int t = f + 1; t < places.size(); t++) lefts[f + 1][t] = left(0, f, t);
                    }
                }
                pages.put(measure, places.size() <= 9 ? goThroughAll(measure, new ArrayList<>()) : forward(measure));
            }
            return pages.get(measure);
        }

        private int quickCost(int measure, int f, int t) {
            if (t == places.size() - 1) return 0;
            int left = lefts[f + 1][t] + measure;
            int again = f >= 0 && places.get(f)[2] == 1 ? set.v[3] : 0;
            return left * left + (places.get(t)[2] == 1 ? set.v[2] + again : 0);
        }

        private Page goThroughAll(int measure, List<Integer> ends) {
            int from = ends.isEmpty() ? -1 : ends.get(ends.size() - 1);
            if (from == places.size() - 1) {
                Page p = new Page();
                p.ends.addAll(ends);
                int f = -1;
                for (int t : ends) {
                    p.cost += quickCost(measure, f, t);
                    f = t;
                }
                return p;
            }
            Page best = null;
            for (int to = from + 1; to < places.size(); to++) {
                if (lefts[from + 1][to] + measure < 0) continue;
                ends.add(to);
                Page p = goThroughAll(measure, ends);
                ends.remove(ends.size() - 1);
                if (p != null && (best == null || p.isBetterThan(best))) best = p;
            }
            return best;
        }

        /** The best way to come to each PLACE, from the beginning on. */
        private Page forward(int measure) {
            Page[] best = new Page[places.size() + 1];
            best[0] = new Page();
            for (int to = 0; to < places.size(); to++) {
                for (int from = -1; from < to; from++) {
                    if (best[from + 1] == null || lefts[from + 1][to] + measure < 0) continue;
                    Page p = new Page();
                    p.ends.addAll(best[from + 1].ends);
                    p.ends.add(to);
                    p.cost = best[from + 1].cost + quickCost(measure, from, to);
                    if (best[to + 1] == null || p.isBetterThan(best[to + 1])) best[to + 1] = p;
                }
            }
            return best[places.size()];
        }

        private Page now() {
            return pageBy(set.v[1]);
        }

        private int from(int k) {
            return k == 0 ? -1 : now().ends.get(k - 1);
        }

        private String lineOf(int k) {
            return lineText(from(k), now().ends.get(k));
        }

        /** BLANKS of a LINE, {begin, end}; and the END at last. */
        private List<int[]> set(int k) {
            String line = lineOf(k);
            int blanks = line.length() - line.replace(" ", "").length();
            boolean spread = k < now().ends.size() - 1 && blanks > 0;
            int left = left(set.v[1], from(k), now().ends.get(k));
            List<int[]> all = new ArrayList<>();
            int x = 0;
            for (char c : line.toCharArray()) {
                if (c != ' ') {
                    x += set.width.get(c);
                    continue;
                }
                int w = set.v[0];
                if (spread) w += left / blanks + (all.size() < left % blanks ? 1 : 0);
                all.add(new int[] {x, x + w});
                x += w;
            }
            all.add(new int[] {x});
            return all;
        }

        private List<int[]> blanks(int k) {
            if (k < 0 || k >= now().ends.size()) return new ArrayList<>();
            List<int[]> all = set(k);
            return all.subList(0, all.size() - 1);
        }

        private boolean common(int[] a, int[] b) {
            return Math.min(a[1], b[1]) - Math.max(a[0], b[0]) > 0;
        }

        private int longOf(int k, int[] blank) {
            int most = 0;
            for (int[] b : blanks(k + 1)) if (common(b, blank)) most = Math.max(most, longOf(k + 1, b));
            return most + 1;
        }

        private boolean spring(int k, int[] blank) {
            for (int[] b : blanks(k - 1)) if (common(b, blank)) return false;
            return longOf(k, blank) >= 3;
        }

        int page(int what) {
            if (what < 0 || what > 5) return BAD;
            Page p = now();
            if (p == null) return NONE;
            int slashes = 0;
            int rough = 0;
            int springs = 0;
            int most = 0;
            for (int k = 0; k < p.ends.size(); k++) {
                slashes += places.get(p.ends.get(k))[2];
                List<int[]> set1 = set(k);
                if (k < p.ends.size() - 1) rough += Math.abs(set1.get(set1.size() - 1)[0] - set.v[1] - hung(lineOf(k)));
                if (what < 4) continue;
                for (int[] b : blanks(k)) {
                    if (spring(k, b)) springs++;
                    most = Math.max(most, longOf(k, b));
                }
            }
            return new int[] {p.cost, p.ends.size(), slashes, rough, springs, most}[what];
        }

        int line(int k, int what) {
            if (k < 0 || what < 0 || what > 6) return BAD;
            if (now() == null) return NONE;
            if (k >= now().ends.size()) return BAD;
            String line = lineOf(k);
            int to = now().ends.get(k);
            List<int[]> all = set(k);
            return new int[] {to, natural(line), hung(line), left(set.v[1], from(k), to), cost(set.v[1], from(k), to),
                all.size() - 1, all.get(all.size() - 1)[0]}[what];
        }

        int blank(int k, int i, int what) {
            if (k < 0 || i < 0 || what < 0 || what > 3) return BAD;
            if (now() == null) return NONE;
            if (k >= now().ends.size()) return BAD;
            if (i >= blanks(k).size()) return NONE;
            int[] b = blanks(k).get(i);
            return new int[] {b[0], b[1], longOf(k, b), spring(k, b) ? 1 : 0}[what];
        }

        int leftOf(int from, int to) {
            return from < -1 || to <= from || to >= places.size() ? NO : left(set.v[1], from, to);
        }

        int puts(int p) {
            if (p < 0 || p >= places.size()) return BAD;
            if (!draft.isEmpty() && p <= draft.get(draft.size() - 1)) return BAD;
            draft.add(p);
            return draft.size();
        }

        int takes() {
            return draft.isEmpty() ? STATE : draft.remove(draft.size() - 1);
        }

        int judged(int what) {
            if (what < 0 || what > 2) return BAD;
            int from = -1;
            int cost = 0;
            for (int k = 0; k < draft.size(); k++) {
                if (left(set.v[1], from, draft.get(k)) < 0) return new int[] {1, k, NONE}[what];
                cost += cost(set.v[1], from, draft.get(k));
                from = draft.get(k);
            }
            if (from < places.size() - 1) return new int[] {2, draft.size(), NONE}[what];
            return new int[] {0, NONE, cost - now().cost}[what];
        }

        private int answer(List<Integer> all, int what) {
            if (what == 0) return all.size();
            return all.isEmpty() ? NONE : all.get(what == 1 ? 0 : all.size() - 1);
        }

        int alike(int what) {
            if (what < 0 || what > 2) return BAD;
            if (now() == null) return NONE;
            List<Integer> all = new ArrayList<>();
            for (int m = 10; m <= 200; m++) if (pageBy(m) != null && pageBy(m).ends.equals(now().ends)) all.add(m);
            return answer(all, what);
        }

        int sees(int w, int begins) {
            if (w < 0 || w >= spelled.size() || begins < 0 || begins > 1) return BAD;
            if (seen.size() == 6) return FULL;
            seen.add(new int[] {w, begins});
            return seen.size();
        }

        int forget() {
            int n = seen.size();
            seen.clear();
            return n;
        }

        int unseen(int what) {
            if (what < 0 || what > 2) return BAD;
            List<Integer> all = new ArrayList<>();
            for (int m = 10; m <= 200; m++) {
                Page p = pageBy(m);
                if (p == null) continue;
                List<Integer> begin = new ArrayList<>();
                if (!p.ends.isEmpty()) begin.add(0);
                for (int e : p.ends) if (places.get(e)[2] == 0) begin.add(places.get(e)[0] + 1);
                boolean so = true;
                for (int[] s : seen) so &= begin.contains(s[0]) == (s[1] == 1);
                if (so) all.add(m);
            }
            return answer(all, what);
        }

        int keep(int i) {
            if (i < 0 || i > 1) return BAD;
            images[i] = set.copy();
            return set.v[1];
        }

        int back(int i) {
            if (i < 0 || i > 1) return BAD;
            if (images[i] == null) return STATE;
            set = images[i].copy();
            undone.clear();
            pages.clear();
            return set.v[1];
        }

        int count(int what) {
            if (what < 0 || what > 10) return BAD;
            return new int[] {spelled.size(), places.size(), set.v[0], set.v[1], set.v[2], set.v[3], draft.size(),
                seen.size(), text.length(), undone.size(), spellings().size()}[what];
        }
    }
}
