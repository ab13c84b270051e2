/**
 * Lines of a page whose marks hang past the margin. The words in capitals, and what each
 * call answers, are those of ../shared/DOC.md.
 */
public final class HungMargins {
    public static final int BAD = -1, STATE = -2, FULL = -3, NONE = -9, NO = -1000000;

    private static final int MOST_LETTERS = 200;
    private static final int MOST_WORDS = 30;
    private static final int MOST_SIGNS = 16;
    // Each PLACE but the last takes two letters of the text: a sign and a / or a blank.
    private static final int MOST_PLACES = (MOST_LETTERS + 1) / 2;
    private static final int MOST_SEEN = 6;
    private static final int MOST_UNDONE = 10;
    private static final int IMAGES = 2;

    private static final int LEAST_MEASURE = 10;
    private static final int GREATEST_MEASURE = 200;
    private static final int MEASURES = GREATEST_MEASURE - LEAST_MEASURE + 1;

    private static final int WIDEST = 9;
    private static final int MOST_TENTHS = 10;

    // All that is set lies in one row, so that an undone change and an IMAGE need no kinds.
    private static final int LETTERS = 26;
    private static final int MARKS = 4;
    private static final int HANG_SLOT = LETTERS + MARKS;
    private static final int GAP_SLOT = HANG_SLOT + MARKS;
    private static final int MEASURE_SLOT = GAP_SLOT + 1;
    private static final int PARTED_SLOT = GAP_SLOT + 2;
    private static final int AGAIN_SLOT = GAP_SLOT + 3;
    private static final int SLOTS = GAP_SLOT + 4;
    // Of GAP, MEASURE, PARTED, AGAIN.
    private static final int[] LEAST_SET = {1, LEAST_MEASURE, 0, 0};
    private static final int[] GREATEST_SET = {9, GREATEST_MEASURE, 999, 999};
    private static final int[] FIRST_SET = {3, 60, 50, 100};

    private final Row text = new Row(MOST_LETTERS);
    private final Script script = new Script();
    private final Settings settings = new Settings();
    private final Row draft = new Row(MOST_PLACES);
    private final Row seenWords = new Row(MOST_SEEN);
    private final Row seenBegins = new Row(MOST_SEEN);
    private final Lengths lengths = new Lengths();
    private final Breaker breaker = new Breaker();
    private final Sheet sheet = new Sheet();
    private final Survey survey = new Survey();
    private boolean sheetStale = true;
    private boolean surveyStale = true;

    public HungMargins() {
    }

    // ---- what is told

    public int type(int letter) {
        if (letter < 0 || letter > 255) {
            return BAD;
        }
        return text.add(letter) ? text.size() : FULL;
    }

    public int clear() {
        int had = text.size();
        text.empty();
        return had;
    }

    public int words() {
        int fault = faultOf(text);
        if (fault >= 0) {
            return -10 - fault;
        }
        script.read(text);
        text.empty();
        settings.begin();
        draft.empty();
        seenWords.empty();
        seenBegins.empty();
        sheetStale = true;
        surveyStale = true;
        return script.wordCount();
    }

    public int word(int k, int i) {
        if (k < 0 || k >= script.wordCount() || i < -1) {
            return BAD;
        }
        if (i == -1) {
            return script.signCount(k);
        }
        return i < script.signCount(k) ? script.signOf(k, i) : NONE;
    }

    public int different(int k, int what) {
        if (k < 0 || what < 0 || what > 1) {
            return BAD;
        }
        if (k >= script.spellings()) {
            return NONE;
        }
        return what == 0 ? script.firstSpelled(k) : script.timesSpelled(k);
    }

    public int place(int place, int what) {
        if (!isPlace(place)) {
            return BAD;
        }
        switch (what) {
            case 0: return script.wordAt(place);
            case 1: return script.plainAhead(place);
            case 2: return script.isSlashAt(place) ? 1 : 0;
            default: return BAD;
        }
    }

    // ---- what is done

    public int wide(int sign, int width) {
        int slot = widthSlot(sign);
        if (slot < 0 || width < 0 || width > WIDEST) {
            return BAD;
        }
        return change(slot, width);
    }

    public int hangs(int mark, int tenths) {
        int slot = hangSlot(mark);
        if (slot < 0 || tenths < 0 || tenths > MOST_TENTHS) {
            return BAD;
        }
        return change(slot, tenths);
    }

    public int sets(int what, int v) {
        if (what < 0 || what >= LEAST_SET.length || what >= GREATEST_SET.length) {
            return BAD;
        }
        if (v < LEAST_SET[what] || v > GREATEST_SET[what]) {
            return BAD;
        }
        return change(GAP_SLOT + what, v);
    }

    public int undo() {
        if (settings.undoable() == 0) {
            return STATE;
        }
        markStale(settings.takeBack());
        return settings.undoable();
    }

    // ---- the page

    public int page(int what) {
        if (what < 0 || what > 5) {
            return BAD;
        }
        freshen();
        if (!sheet.isThere()) {
            return NONE;
        }
        switch (what) {
            case 0: return sheet.cost();
            case 1: return sheet.lineCount();
            case 2: return sheet.slashEnds(lengths);
            case 3: return sheet.rough(lengths);
            case 4: return sheet.springs();
            default: return sheet.longest();
        }
    }

    public int line(int k, int what) {
        if (k < 0 || what < 0 || what > 6) {
            return BAD;
        }
        freshen();
        if (!sheet.isThere()) {
            return NONE;
        }
        if (k >= sheet.lineCount()) {
            return BAD;
        }
        int from = sheet.startOf(k);
        int to = sheet.endOf(k);
        switch (what) {
            case 0: return to;
            case 1: return lengths.natural(from, to);
            case 2: return lengths.hungAt(to);
            case 3: return lengths.left(from, to);
            case 4: return lengths.cost(from, to);
            case 5: return lengths.blanks(from, to);
            default: return lengths.natural(from, to) + lengths.spread(from, to);
        }
    }

    public int blank(int k, int i, int what) {
        if (k < 0 || i < 0 || what < 0 || what > 3) {
            return BAD;
        }
        freshen();
        if (!sheet.isThere()) {
            return NONE;
        }
        if (k >= sheet.lineCount()) {
            return BAD;
        }
        if (i >= sheet.blankCount(k)) {
            return NONE;
        }
        return sheet.blankOf(k, i, what);
    }

    public int leftOf(int from, int to) {
        if (from < -1 || to <= from || !isPlace(to)) {
            return NO;
        }
        freshen();
        return lengths.left(from, to);
    }

    // ---- a told page

    public int puts(int place) {
        if (!isPlace(place) || place <= lastOfDraft()) {
            return BAD;
        }
        draft.add(place);
        return draft.size();
    }

    public int takes() {
        if (draft.size() == 0) {
            return STATE;
        }
        int last = lastOfDraft();
        draft.drop();
        return last;
    }

    public int judged(int what) {
        if (what < 0 || what > 2) {
            return BAD;
        }
        freshen();
        int wrongLine = firstWrongLine();
        boolean isPage = wrongLine < 0;
        if (what == 0) {
            return isPage ? 0 : wrongLine < draft.size() ? 1 : 2;
        }
        if (what == 1) {
            return isPage ? NONE : wrongLine;
        }
        return isPage ? costOfDraft() - sheet.cost() : NONE;
    }

    // ---- which measure

    public int alike(int what) {
        if (what < 0 || what > 2) {
            return BAD;
        }
        freshen();
        if (!sheet.isThere()) {
            return NONE;
        }
        freshenSurvey();
        survey.pickAlike(settings.get(MEASURE_SLOT));
        return survey.picked(what);
    }

    public int sees(int word, int begins) {
        if (word < 0 || word >= script.wordCount() || begins < 0 || begins > 1) {
            return BAD;
        }
        if (seenWords.size() >= MOST_SEEN) {
            return FULL;
        }
        seenWords.add(word);
        seenBegins.add(begins);
        return seenWords.size();
    }

    public int forget() {
        int had = seenWords.size();
        seenWords.empty();
        seenBegins.empty();
        return had;
    }

    public int unseen(int what) {
        if (what < 0 || what > 2) {
            return BAD;
        }
        freshen();
        freshenSurvey();
        survey.pickSeen(script, seenWords, seenBegins);
        return survey.picked(what);
    }

    // ---- images

    public int keep(int image) {
        if (image < 0 || image >= IMAGES) {
            return BAD;
        }
        settings.copyTo(image);
        return settings.get(MEASURE_SLOT);
    }

    public int back(int image) {
        if (image < 0 || image >= IMAGES) {
            return BAD;
        }
        if (!settings.has(image)) {
            return STATE;
        }
        settings.copyFrom(image);
        sheetStale = true;
        surveyStale = true;
        return settings.get(MEASURE_SLOT);
    }

    public int count(int what) {
        switch (what) {
            case 0: return script.wordCount();
            case 1: return script.placeCount();
            case 2: return settings.get(GAP_SLOT);
            case 3: return settings.get(MEASURE_SLOT);
            case 4: return settings.get(PARTED_SLOT);
            case 5: return settings.get(AGAIN_SLOT);
            case 6: return draft.size();
            case 7: return seenWords.size();
            case 8: return text.size();
            case 9: return settings.undoable();
            case 10: return script.spellings();
            default: return BAD;
        }
    }

    // ---- helpers of the calls

    private boolean isPlace(int place) {
        return place >= 0 && place < script.placeCount();
    }

    private int lastOfDraft() {
        return draft.size() == 0 ? -1 : draft.get(draft.size() - 1);
    }

    private int change(int slot, int value) {
        int old = settings.get(slot);
        if (old == value) {
            return STATE;
        }
        settings.change(slot, value);
        markStale(slot);
        return old;
    }

    /** The survey goes through all MEASURES, so the one that is set does not matter to it. */
    private void markStale(int slot) {
        sheetStale = true;
        if (slot != MEASURE_SLOT) {
            surveyStale = true;
        }
    }

    private void freshen() {
        if (sheetStale) {
            lengths.take(script, settings);
            breaker.solve(lengths, settings.get(MEASURE_SLOT));
            sheet.lay(lengths, breaker);
            sheetStale = false;
        }
    }

    private void freshenSurvey() {
        if (surveyStale) {
            survey.goThrough(lengths, breaker);
            surveyStale = false;
        }
    }

    /** The DRAFT's first LINE that is wrong (the one behind its last, if it ends too soon); -1: none. */
    private int firstWrongLine() {
        int from = -1;
        for (int k = 0; k < draft.size(); k++) {
            int to = draft.get(k);
            if (lengths.left(from, to) < 0) {
                return k;
            }
            from = to;
        }
        return from == script.placeCount() - 1 ? -1 : draft.size();
    }

    private int costOfDraft() {
        int cost = 0;
        int from = -1;
        for (int k = 0; k < draft.size(); k++) {
            int to = draft.get(k);
            cost += lengths.cost(from, to);
            from = to;
        }
        return cost;
    }

    // ---- signs

    private static boolean isLetter(int letter) {
        return letter >= 'a' && letter <= 'z';
    }

    private static int markNumber(int letter) {
        switch (letter) {
            case '.': return 0;
            case ',': return 1;
            case '-': return 2;
            case '\'': return 3;
            default: return -1;
        }
    }

    private static int widthSlot(int letter) {
        if (isLetter(letter)) {
            return letter - 'a';
        }
        int mark = markNumber(letter);
        return mark < 0 ? -1 : LETTERS + mark;
    }

    private static int hangSlot(int letter) {
        int mark = markNumber(letter);
        return mark < 0 ? -1 : HANG_SLOT + mark;
    }

    /** A letter or a MARK: a SIGN that is not /. */
    private static boolean isPlainSign(int letter) {
        return widthSlot(letter) >= 0;
    }

    /** FAULT of a text; -1: none. */
    private static int faultOf(Row text) {
        int words = 0;
        int signs = 0;
        for (int i = 0; i < text.size(); i++) {
            int letter = text.get(i);
            if (letter == ' ') {
                signs = 0;
                continue;
            }
            if (letter == '/' ? !isBetweenSigns(text, i) : !isPlainSign(letter)) {
                return i;
            }
            words += signs == 0 ? 1 : 0;
            signs++;
            if (signs > MOST_SIGNS || words > MOST_WORDS) {
                return i;
            }
        }
        return -1;
    }

    private static boolean isBetweenSigns(Row text, int i) {
        return i > 0 && i + 1 < text.size() && isPlainSign(text.get(i - 1)) && isPlainSign(text.get(i + 1));
    }

    /** A row of numbers that grows up to a bound; it is made once and used again. */
    private static final class Row {
        private final int[] items;
        private int size;

        Row(int most) {
            items = new int[Math.max(0, most)];
        }

        int size() {
            return size;
        }

        int get(int i) {
            return i >= 0 && i < size && i < items.length ? items[i] : 0;
        }

        void set(int i, int value) {
            if (i >= 0 && i < size && i < items.length) {
                items[i] = value;
            }
        }

        /** Whether there was room for it. */
        boolean add(int value) {
            if (size < 0 || size >= items.length) {
                return false;
            }
            items[size] = value;
            size++;
            return true;
        }

        void drop() {
            if (size > 0) {
                size--;
            }
        }

        void dropFirst() {
            for (int i = 1; i < size; i++) {
                set(i - 1, get(i));
            }
            drop();
        }

        void empty() {
            size = 0;
        }
    }

    /** The WORDS as they were told, their PLACES and spellings. */
    private static final class Script {
        private final Row signs = new Row(MOST_LETTERS);
        private final Row signEnds = new Row(MOST_WORDS);
        private final Row plain = new Row(MOST_LETTERS);
        private final Row plainEnds = new Row(MOST_WORDS);
        private final Row lastPlaces = new Row(MOST_WORDS);
        private final Row spelledAs = new Row(MOST_WORDS);
        private final Row firsts = new Row(MOST_WORDS);
        private final Row placeWords = new Row(MOST_PLACES);
        private final Row placePlain = new Row(MOST_PLACES);
        private final Row placeSlashes = new Row(MOST_PLACES);

        /** A text without FAULT. */
        void read(Row text) {
            forgetAll();
            for (int i = 0; i < text.size(); i++) {
                int letter = text.get(i);
                if (letter == ' ') {
                    continue;
                }
                signs.add(letter);
                if (letter == '/') {
                    addPlace(1);
                    continue;
                }
                plain.add(letter);
                if (i + 1 >= text.size() || text.get(i + 1) == ' ') {
                    endWord();
                }
            }
        }

        private void forgetAll() {
            signs.empty();
            signEnds.empty();
            plain.empty();
            plainEnds.empty();
            lastPlaces.empty();
            spelledAs.empty();
            firsts.empty();
            placeWords.empty();
            placePlain.empty();
            placeSlashes.empty();
        }

        private void addPlace(int slash) {
            int word = wordCount();
            placeWords.add(word);
            placePlain.add(plain.size() - startOf(plainEnds, word));
            placeSlashes.add(slash);
        }

        private void endWord() {
            int word = wordCount();
            addPlace(0);
            lastPlaces.add(placeCount() - 1);
            plainEnds.add(plain.size());
            signEnds.add(signs.size());
            int first = firstLike(word);
            spelledAs.add(first);
            if (first == word) {
                firsts.add(word);
            }
        }

        private int firstLike(int word) {
            for (int w = 0; w < word; w++) {
                if (areSpelledAlike(w, word)) {
                    return w;
                }
            }
            return word;
        }

        private boolean areSpelledAlike(int one, int other) {
            int oneStart = startOf(plainEnds, one);
            int otherStart = startOf(plainEnds, other);
            int length = plainEnds.get(one) - oneStart;
            if (plainEnds.get(other) - otherStart != length) {
                return false;
            }
            for (int i = 0; i < length; i++) {
                if (plain.get(oneStart + i) != plain.get(otherStart + i)) {
                    return false;
                }
            }
            return true;
        }

        int wordCount() {
            return signEnds.size();
        }

        int placeCount() {
            return placeWords.size();
        }

        private static int startOf(Row ends, int word) {
            return word > 0 ? ends.get(word - 1) : 0;
        }

        int signCount(int word) {
            return signEnds.get(word) - startOf(signEnds, word);
        }

        int signOf(int word, int i) {
            return signs.get(startOf(signEnds, word) + i);
        }

        int wordAt(int place) {
            return placeWords.get(place);
        }

        int plainAhead(int place) {
            return placePlain.get(place);
        }

        boolean isSlashAt(int place) {
            return placeSlashes.get(place) == 1;
        }

        int lastPlaceOf(int word) {
            return lastPlaces.get(word);
        }

        int spellings() {
            return firsts.size();
        }

        int firstSpelled(int k) {
            return firsts.get(k);
        }

        int timesSpelled(int k) {
            int times = 0;
            for (int w = 0; w < spelledAs.size(); w++) {
                times += spelledAs.get(w) == firsts.get(k) ? 1 : 0;
            }
            return times;
        }
    }

    /** WIDTHS, HANGS, GAP, MEASURE, PARTED, AGAIN; what can be UNDONE; the IMAGES. */
    private static final class Settings {
        private final int[] values = new int[SLOTS];
        private final Row undoSlots = new Row(MOST_UNDONE);
        private final Row undoValues = new Row(MOST_UNDONE);
        private final int[] images = new int[IMAGES * SLOTS];
        private final boolean[] kept = new boolean[IMAGES];

        Settings() {
            begin();
        }

        /** All as at first. */
        void begin() {
            for (int slot = 0; slot < GAP_SLOT; slot++) {
                store(slot, slot < LETTERS ? 4 : slot < HANG_SLOT ? 2 : 0);
            }
            for (int i = 0; i < FIRST_SET.length; i++) {
                store(GAP_SLOT + i, FIRST_SET[i]);
            }
            for (int image = 0; image < kept.length; image++) {
                kept[image] = false;
            }
            loseUndone();
        }

        private void store(int slot, int value) {
            if (slot >= 0 && slot < values.length) {
                values[slot] = value;
            }
        }

        private void loseUndone() {
            undoSlots.empty();
            undoValues.empty();
        }

        int get(int slot) {
            return slot >= 0 && slot < values.length ? values[slot] : 0;
        }

        /** / has no slot, and so the WIDTH 0. */
        int widthOf(int sign) {
            return get(widthSlot(sign));
        }

        int hungOf(int sign) {
            return get(widthSlot(sign)) * get(hangSlot(sign)) / 10;
        }

        void change(int slot, int value) {
            if (undoSlots.size() >= MOST_UNDONE) {
                undoSlots.dropFirst();
                undoValues.dropFirst();
            }
            undoSlots.add(slot);
            undoValues.add(get(slot));
            store(slot, value);
        }

        int undoable() {
            return undoSlots.size();
        }

        /** The latest change is UNDONE: which slot it was. */
        int takeBack() {
            int latest = undoSlots.size() - 1;
            int slot = undoSlots.get(latest);
            if (latest >= 0) {
                store(slot, undoValues.get(latest));
                undoSlots.drop();
                undoValues.drop();
            }
            return slot;
        }

        boolean has(int image) {
            return image >= 0 && image < kept.length && kept[image];
        }

        void copyTo(int image) {
            if (image < 0 || image >= kept.length) {
                return;
            }
            System.arraycopy(values, 0, images, image * SLOTS, SLOTS);
            kept[image] = true;
        }

        void copyFrom(int image) {
            if (has(image)) {
                System.arraycopy(images, image * SLOTS, values, 0, SLOTS);
                loseUndone();
            }
        }
    }

    /**
     * How long LINES are. All WORDS stand in one row with a GAP between, and each PLACE knows
     * where in it a LINE ends that ends there, and where one begins that begins behind it.
     */
    private static final class Lengths {
        private final Row ends = new Row(MOST_PLACES);
        private final Row hung = new Row(MOST_PLACES);
        private final Row slashes = new Row(MOST_PLACES);
        private final Row inWord = new Row(MOST_PLACES);
        // The one behind PLACE p lies at p + 1; the first, at 0, is the beginning's.
        private final Row begins = new Row(MOST_PLACES + 1);
        private int gap;
        private int measure;
        private int parted;
        private int again;

        void take(Script script, Settings settings) {
            gap = settings.get(GAP_SLOT);
            measure = settings.get(MEASURE_SLOT);
            parted = settings.get(PARTED_SLOT);
            again = settings.get(AGAIN_SLOT);
            ends.empty();
            hung.empty();
            slashes.empty();
            inWord.empty();
            begins.empty();
            begins.add(0);
            int x = 0;
            for (int w = 0; w < script.wordCount(); w++) {
                x = takeWord(script, settings, w, x);
            }
        }

        /** Where the next WORD begins. */
        private int takeWord(Script script, Settings settings, int word, int start) {
            int x = start;
            int sign = 0;
            for (int i = 0; i < script.signCount(word); i++) {
                sign = script.signOf(word, i);
                x += settings.widthOf(sign);
                if (sign == '/') {
                    addPlace(word, 1, x + settings.widthOf('-'), settings.hungOf('-'), x);
                }
            }
            addPlace(word, 0, x, settings.hungOf(sign), x + gap);
            return x + gap;
        }

        private void addPlace(int word, int slash, int end, int hungThere, int nextBegin) {
            inWord.add(word);
            slashes.add(slash);
            ends.add(end);
            hung.add(hungThere);
            begins.add(nextBegin);
        }

        int places() {
            return ends.size();
        }

        int gap() {
            return gap;
        }

        boolean isSlashAt(int place) {
            return slashes.get(place) == 1;
        }

        int hungAt(int place) {
            return hung.get(place);
        }

        /** Where a LINE begins, in the row of all WORDS. */
        int beginBehind(int from) {
            return begins.get(from + 1);
        }

        int natural(int from, int to) {
            return ends.get(to) - begins.get(from + 1);
        }

        int leftBy(int someMeasure, int from, int to) {
            return someMeasure + hung.get(to) - ends.get(to) + begins.get(from + 1);
        }

        int left(int from, int to) {
            return leftBy(measure, from, to);
        }

        /** COST of a LINE by its LEFT: only PLACES tell whether the LINE ahead ended at a /. */
        int costBy(int left, int from, int to) {
            if (to == ends.size() - 1) {
                return 0;
            }
            int cost = left * left;
            if (slashes.get(to) == 1) {
                cost += parted + (from >= 0 && slashes.get(from) == 1 ? again : 0);
            }
            return cost;
        }

        int cost(int from, int to) {
            return costBy(left(from, to), from, to);
        }

        /** The PLACE behind that where a LINE begins lies in the LINE's first WORD. */
        int blanks(int from, int to) {
            return inWord.get(to) - inWord.get(from + 1);
        }

        /** How much of LEFT goes to the blanks of a LINE of THE PAGE. */
        int spread(int from, int to) {
            return to == places() - 1 || blanks(from, to) == 0 ? 0 : leftBy(measure, from, to);
        }
    }

    /** THE PAGE by a MEASURE, found from the end: the best that can follow each PLACE. */
    private static final class Breaker {
        // Each is that of the LINES behind PLACE p at p + 1, and of all LINES at 0.
        private final int[] costs = new int[MOST_PLACES + 1];
        private final int[] lineCounts = new int[MOST_PLACES + 1];
        private final int[] nextEnds = new int[MOST_PLACES + 1];

        void solve(Lengths lengths, int measure) {
            int places = Math.max(0, Math.min(lengths.places(), MOST_PLACES));
            costs[places] = 0;
            lineCounts[places] = 0;
            nextEnds[places] = places;
            for (int from = places - 2; from >= -1; from--) {
                chooseEnd(lengths, measure, from, places);
            }
        }

        private void chooseEnd(Lengths lengths, int measure, int from, int places) {
            int cost = 0;
            int lines = -1;
            int end = -1;
            int farthest = measure + WIDEST + lengths.beginBehind(from);
            for (int to = from + 1; to < places; to++) {
                int left = lengths.leftBy(measure, from, to);
                if (left >= 0 && lineCounts[to + 1] >= 0) {
                    int total = lengths.costBy(left, from, to) + costs[to + 1];
                    int count = lineCounts[to + 1] + 1;
                    // Of those that are as good, the later PLACE is the right one.
                    if (end < 0 || total < cost || total == cost && count <= lines) {
                        cost = total;
                        lines = count;
                        end = to;
                    }
                }
                // No later LINE can be, though a longer one may fit where a shorter one does
                // not: a - goes, or a MARK hangs (by WIDEST at most).
                if (lengths.beginBehind(to) > farthest) {
                    break;
                }
            }
            costs[from + 1] = cost;
            lineCounts[from + 1] = lines;
            nextEnds[from + 1] = end;
        }

        boolean hasPage() {
            return lineCounts[0] >= 0;
        }

        int cost() {
            return costs[0];
        }

        int lineCount() {
            return lineCounts[0];
        }

        /** Where the LINE ends that begins behind a PLACE of THE PAGE. */
        int endBehind(int from) {
            int at = from + 1;
            return at >= 0 && at < nextEnds.length ? nextEnds[at] : -1;
        }
    }

    /** THE PAGE as it is set, its BLANKS and their RIVERS. */
    private static final class Sheet {
        private final Row ends = new Row(MOST_PLACES);
        // Where the BLANKS of each LINE begin among those of all, and at last how many there are.
        private final Row firstBlanks = new Row(MOST_PLACES + 1);
        private final Row blankBegins = new Row(MOST_WORDS);
        private final Row blankEnds = new Row(MOST_WORDS);
        private final Row longs = new Row(MOST_WORDS);
        private final Row springs = new Row(MOST_WORDS);
        private boolean there;
        private int cost;

        void lay(Lengths lengths, Breaker breaker) {
            ends.empty();
            firstBlanks.empty();
            blankBegins.empty();
            blankEnds.empty();
            longs.empty();
            springs.empty();
            there = breaker.hasPage();
            cost = breaker.cost();
            if (!there) {
                return;
            }
            firstBlanks.add(0);
            int from = -1;
            for (int k = 0; k < breaker.lineCount(); k++) {
                int to = breaker.endBehind(from);
                ends.add(to);
                setLine(lengths, from, to);
                firstBlanks.add(blankBegins.size());
                from = to;
            }
            measureRivers();
        }

        private void setLine(Lengths lengths, int from, int to) {
            int blanks = lengths.blanks(from, to);
            int share = blanks > 0 ? lengths.spread(from, to) / blanks : 0;
            int over = blanks > 0 ? lengths.spread(from, to) % blanks : 0;
            int i = 0;
            for (int place = from + 1; place < to; place++) {
                if (lengths.isSlashAt(place)) {
                    continue;
                }
                int begin = lengths.natural(from, place) + i * share + Math.min(i, over);
                addBlank(begin, begin + lengths.gap() + share + (i < over ? 1 : 0));
                i++;
            }
        }

        private void addBlank(int begin, int end) {
            blankBegins.add(begin);
            blankEnds.add(end);
            longs.add(0);
            springs.add(0);
        }

        /** From the last LINE up: a RIVER goes on below the BLANK that it begins with. */
        private void measureRivers() {
            for (int k = lineCount() - 1; k >= 0; k--) {
                for (int b = firstBlanks.get(k); b < firstBlanks.get(k + 1); b++) {
                    longs.set(b, 1 + longestMet(b, k + 1));
                    boolean isSpring = longs.get(b) >= 3 && !meetsAny(b, k - 1);
                    springs.set(b, isSpring ? 1 : 0);
                }
            }
        }

        private int longestMet(int blank, int k) {
            int longest = 0;
            for (int b = firstBlanks.get(k); b < firstBlanks.get(k + 1); b++) {
                if (meet(blank, b)) {
                    longest = Math.max(longest, longs.get(b));
                }
            }
            return longest;
        }

        private boolean meetsAny(int blank, int k) {
            if (k < 0) {
                return false;
            }
            for (int b = firstBlanks.get(k); b < firstBlanks.get(k + 1); b++) {
                if (meet(blank, b)) {
                    return true;
                }
            }
            return false;
        }

        /** Whether two BLANKS have more than a point in common. */
        private boolean meet(int one, int other) {
            return blankBegins.get(one) < blankEnds.get(other) && blankBegins.get(other) < blankEnds.get(one);
        }

        boolean isThere() {
            return there;
        }

        int cost() {
            return cost;
        }

        int lineCount() {
            return ends.size();
        }

        int startOf(int k) {
            return k > 0 ? ends.get(k - 1) : -1;
        }

        int endOf(int k) {
            return ends.get(k);
        }

        int slashEnds(Lengths lengths) {
            int count = 0;
            for (int k = 0; k < ends.size(); k++) {
                count += lengths.isSlashAt(ends.get(k)) ? 1 : 0;
            }
            return count;
        }

        /** A LINE falls short of the edge by what of its LEFT went to no BLANK. */
        int rough(Lengths lengths) {
            int rough = 0;
            for (int k = 0; k + 1 < ends.size(); k++) {
                rough += lengths.left(startOf(k), endOf(k)) - lengths.spread(startOf(k), endOf(k));
            }
            return rough;
        }

        int springs() {
            int count = 0;
            for (int b = 0; b < springs.size(); b++) {
                count += springs.get(b);
            }
            return count;
        }

        int longest() {
            int longest = 0;
            for (int b = 0; b < longs.size(); b++) {
                longest = Math.max(longest, longs.get(b));
            }
            return longest;
        }

        int blankCount(int k) {
            return firstBlanks.get(k + 1) - firstBlanks.get(k);
        }

        int blankOf(int k, int i, int what) {
            int b = firstBlanks.get(k) + i;
            switch (what) {
                case 0: return blankBegins.get(b);
                case 1: return blankEnds.get(b);
                case 2: return longs.get(b);
                default: return springs.get(b);
            }
        }
    }

    /** THE PAGE by each MEASURE, as the set of PLACES where its LINES end. */
    private static final class Survey {
        // MOST_PLACES bits take two longs.
        private static final int LONGS = 2;
        private final boolean[] there = new boolean[MEASURES];
        private final long[] ends = new long[MEASURES * LONGS];
        private final boolean[] picks = new boolean[MEASURES];

        void goThrough(Lengths lengths, Breaker breaker) {
            for (int m = 0; m < MEASURES; m++) {
                breaker.solve(lengths, LEAST_MEASURE + m);
                there[m] = breaker.hasPage();
                note(m, breaker);
            }
        }

        private void note(int m, Breaker breaker) {
            long low = 0;
            long high = 0;
            int from = -1;
            for (int k = 0; k < breaker.lineCount(); k++) {
                from = breaker.endBehind(from);
                if (from < 64) {
                    low |= 1L << from;
                } else {
                    high |= 1L << (from - 64);
                }
            }
            if (m >= 0 && m < MEASURES) {
                ends[m * LONGS] = low;
                ends[m * LONGS + 1] = high;
            }
        }

        private boolean endsAt(int m, int place) {
            if (m < 0 || m >= MEASURES || place < 0 || place >= LONGS * 64) {
                return false;
            }
            return (ends[m * LONGS + place / 64] >>> (place % 64) & 1L) == 1L;
        }

        void pickAlike(int measure) {
            int now = Math.max(0, Math.min(MEASURES - 1, measure - LEAST_MEASURE));
            for (int m = 0; m < MEASURES; m++) {
                picks[m] = there[m] && ends[m * LONGS] == ends[now * LONGS]
                    && ends[m * LONGS + 1] == ends[now * LONGS + 1];
            }
        }

        void pickSeen(Script script, Row seenWords, Row seenBegins) {
            for (int m = 0; m < MEASURES; m++) {
                picks[m] = there[m];
                for (int i = 0; i < seenWords.size(); i++) {
                    boolean begins = beginsLine(m, script, seenWords.get(i));
                    picks[m] = picks[m] && begins == (seenBegins.get(i) == 1);
                }
            }
        }

        private boolean beginsLine(int m, Script script, int word) {
            return word == 0 || endsAt(m, script.lastPlaceOf(word - 1));
        }

        /** Of what was picked: how many (0), the least (1), the greatest (2). */
        int picked(int what) {
            int count = 0;
            int least = NONE;
            int greatest = NONE;
            for (int m = 0; m < MEASURES; m++) {
                if (picks[m]) {
                    count++;
                    least = least == NONE ? LEAST_MEASURE + m : least;
                    greatest = LEAST_MEASURE + m;
                }
            }
            return what == 0 ? count : what == 1 ? least : greatest;
        }
    }
}
