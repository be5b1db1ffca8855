import java.util.Arrays;
import java.util.NoSuchElementException;

/** A desk where words are typed as they sound and come out as signs. */
public final class SoundLine {
    public static final int NONE = -1;

    private static final int LETTERS = 26;
    private static final int LETTER_BITS = 5;
    private static final int SPELLING_LETTERS = 4;
    private static final int SOUNDS = 50;
    private static final int SOUND_BITS = 6;
    private static final int WORD_SOUNDS = 6;
    private static final int ENDING_SOUNDS = 3;
    private static final int GREATEST_SIGN = 16383;
    private static final int SIGN_BITS = 14;
    private static final int WORD_SIGNS = 4;
    private static final int GUESS_SIGN = 20000;

    private static final int SPELLINGS = 3;
    private static final int WORDS = 60;
    private static final int ENDINGS = 8;
    private static final int CLASSES = 6;
    private static final int LINE = 36;
    private static final int TAKEN_LINES = 40;
    private static final int ACTS = 80;
    private static final int CHOICES = 12;

    private static final int GREATEST_SPELLING_PRICE = 40;
    private static final int GREATEST_ENDING_PRICE = 60;
    private static final int GREATEST_PRICE = 200;
    private static final int GREATEST_STEP = 90;
    private static final int PRICES = 3;
    private static final int SLIP = 0;
    private static final int GUESS = 1;
    private static final int BASE = 2;
    private static final int COUNT_WORTH = 8;
    private static final int PAIRS_WORTH = 2;

    /** Kinds 0 to 7 are words', 8 is the guesses'. */
    private static final int KINDS = 9;
    private static final int GUESS_KIND = 8;

    /** How a break is wanted. */
    private static final int WANTED = 1;
    private static final int UNWANTED = 2;

    /**
     * An entry is a word with an ending or without, or the guess, as one number: word * FORMS + ending + 1. So entries
     * stand in the document's order: by words, none ahead of the endings, the guess behind all.
     */
    private static final int FORMS = ENDINGS + 1;
    private static final int GUESS_ENTRY = WORDS * FORMS;

    /** A value is a cost above an entry, so that the least value is the first of the cheapest entries. */
    private static final int ENTRY_BITS = 10;
    private static final int ENTRY_MASK = (1 << ENTRY_BITS) - 1;
    private static final int NO_VALUE = 0x7fffffff;

    /** Far above every cost, and still far below an overflow when a few of them are added. */
    private static final int FAR = 1 << 28;
    private static final int NO_READING = -1000000;

    private final Book book = new Book();
    private final Sheet sheet = new Sheet();
    private final Acts acts = new Acts();
    private final Taken taken = new Taken();
    private final Speller speller = new Speller(book, sheet);
    private final Spans spans = new Spans(book, sheet, speller);
    private final Reading reading = new Reading(book, sheet, speller, spans);
    private final Offers offers = new Offers(book, sheet, speller, reading);

    public SoundLine() {
    }

    public int spelling(int sound, long letters, int price) throws IllegalArgumentException {
        int length = rowLength(letters, LETTER_BITS, LETTERS, SPELLING_LETTERS);
        if (sound < 0 || sound >= SOUNDS || length == 0 || price < 0 || price > GREATEST_SPELLING_PRICE) {
            throw new IllegalArgumentException("no such sound, row or price");
        }
        if (!book.addSpelling(sound, (int) letters, length, price)) {
            return NONE;
        }
        bookChanged();
        return book.spellingsOf[sound];
    }

    public int word(long sounds, long signs, int kind, int itsClass) throws IllegalArgumentException {
        if (rowLength(sounds, SOUND_BITS, SOUNDS, WORD_SOUNDS) == 0
                || rowLength(signs, SIGN_BITS, GREATEST_SIGN, WORD_SIGNS) == 0) {
            throw new IllegalArgumentException("a row is none");
        }
        if (kind < 0 || kind >= GUESS_KIND || itsClass < NONE || itsClass >= CLASSES) {
            throw new IllegalArgumentException("no such kind or class");
        }
        if (book.words >= WORDS) {
            return NONE;
        }
        bookChanged();
        return book.addWord(sounds, signs, kind, itsClass);
    }

    public int ending(long sounds, int sign, int itsClass, int price) throws IllegalArgumentException {
        if (rowLength(sounds, SOUND_BITS, SOUNDS, ENDING_SOUNDS) == 0 || sign < 1 || sign > GREATEST_SIGN) {
            throw new IllegalArgumentException("no such row or sign");
        }
        if (itsClass < 0 || itsClass >= CLASSES || price < 0 || price > GREATEST_ENDING_PRICE) {
            throw new IllegalArgumentException("no such class or price");
        }
        if (book.endings >= ENDINGS) {
            return NONE;
        }
        bookChanged();
        return book.addEnding(sounds, sign, itsClass, price);
    }

    public int price(int what, int v) throws IllegalArgumentException {
        if (what < 0 || what >= PRICES || v < 0 || v > GREATEST_PRICE) {
            throw new IllegalArgumentException("no such price");
        }
        int was = book.prices[what];
        book.prices[what] = v;
        bookChanged();
        return was;
    }

    public int step(int a, int b, int v) throws IllegalArgumentException {
        if (!areKinds(a, b) || v < 0 || v > GREATEST_STEP) {
            throw new IllegalArgumentException("no such step or price");
        }
        int was = book.stepPrices[a * KINDS + b];
        book.priceStep(a * KINDS + b, v);
        lineChanged();
        return was;
    }

    public int type(int letter) throws IllegalArgumentException {
        if (letter < 1 || letter > LETTERS) {
            throw new IllegalArgumentException("no such letter");
        }
        if (sheet.length >= LINE) {
            return NONE;
        }
        beginAct();
        sheet.append(letter);
        return sheet.length;
    }

    public int typed(int i) throws NoSuchElementException {
        if (i == NONE) {
            return sheet.length;
        }
        if (i < 0 || i >= sheet.length) {
            throw new NoSuchElementException("no such letter");
        }
        return sheet.letters[i];
    }

    public int cost() {
        reading.renew();
        return reading.total >= FAR ? NO_READING : reading.total;
    }

    public int parts() {
        reading.renew();
        return reading.length;
    }

    public int part(int i, int what) throws NoSuchElementException {
        reading.renew();
        if (i < 0 || i >= reading.length) {
            throw new NoSuchElementException("no such part");
        }
        switch (what) {
            case 0:
                return reading.begins[i];
            case 1:
                return reading.ends[i];
            case 2:
                return wordOf(reading.entries[i]);
            case 3:
                return endingOf(reading.entries[i]);
            case 4:
                return book.kindOf(reading.entries[i]);
            case 5:
                return reading.costs[i];
            case 6:
                return sheet.fixed[reading.begins[i]] != 0 ? 1 : 0;
            default:
                throw new NoSuchElementException("a part has no such thing");
        }
    }

    public int sign(int k) throws NoSuchElementException {
        reading.renew();
        int passed = 0;
        for (int i = 0; i < reading.length; i++) {
            int many = book.signsOf(reading.entries[i]);
            if (k >= passed && k < passed + many) {
                return book.signAt(reading.entries[i], k - passed, sheet.letters[reading.begins[i]]);
            }
            passed += many;
        }
        if (k == NONE) {
            return passed;
        }
        throw new NoSuchElementException("no such sign");
    }

    public int choices(int i) throws NoSuchElementException {
        reading.renew();
        if (!offers.list(i)) {
            throw new NoSuchElementException("no such part");
        }
        return offers.length;
    }

    public int choice(int i, int k, int what) throws NoSuchElementException {
        reading.renew();
        if (!offers.list(i) || k < 0 || k >= offers.length) {
            throw new NoSuchElementException("no such part or choice");
        }
        switch (what) {
            case 0:
                return wordOf(offers.entries[k]);
            case 1:
                return endingOf(offers.entries[k]);
            case 2:
                return offers.costs[k];
            default:
                throw new NoSuchElementException("a choice has no such thing");
        }
    }

    public void choose(int i, int k) throws NoSuchElementException {
        reading.renew();
        if (!offers.list(i) || k < 0 || k >= offers.length) {
            throw new NoSuchElementException("no such part or choice");
        }
        int entry = offers.entries[k];
        beginAct();
        sheet.fix(reading.begins[i], reading.ends[i], entry);
    }

    public int setBreak(int place, int how) throws IllegalArgumentException {
        if (place < 1 || place >= sheet.length || how < 0 || how > UNWANTED) {
            throw new IllegalArgumentException("no such place or break");
        }
        int was = sheet.breaks[place];
        beginAct();
        sheet.moveBreak(place, how);
        return was;
    }

    public int free() {
        int were = sheet.fixedParts();
        beginAct();
        sheet.freeHand();
        return were;
    }

    public int empty() {
        int were = sheet.length;
        beginAct();
        sheet.clear();
        return were;
    }

    public boolean back() {
        lineChanged();
        return acts.undo(sheet);
    }

    public int take() {
        reading.renew();
        if (reading.length == 0 || taken.kept >= TAKEN_LINES) {
            return NONE;
        }
        int were = reading.length;
        taken.keep(reading.entries, were);
        book.learn(reading.entries, 0, were, 1);
        sheet.clear();
        acts.forget();
        bookChanged();
        return were;
    }

    public int unlearn() {
        if (taken.kept == 0) {
            return NONE;
        }
        taken.kept--;
        book.learn(taken.entries, taken.kept * LINE, taken.lengths[taken.kept], -1);
        bookChanged();
        return taken.kept;
    }

    public int count(int word) throws NoSuchElementException {
        if (word < 0 || word >= book.words) {
            throw new NoSuchElementException("no such word");
        }
        return book.counts[word];
    }

    public int pairs(int a, int b) throws NoSuchElementException {
        if (!areKinds(a, b)) {
            throw new NoSuchElementException("no such kinds");
        }
        return book.pairsOf[a * KINDS + b];
    }

    public int about(int what) throws NoSuchElementException {
        switch (what) {
            case 0:
                return book.words;
            case 1:
                return book.endings;
            case 2:
                return acts.kept;
            case 3:
                return taken.kept;
            case 4:
                return sheet.fixedParts();
            default:
                throw new NoSuchElementException("nothing of this is told");
        }
    }

    private void beginAct() {
        acts.keep(sheet);
        lineChanged();
    }

    private void lineChanged() {
        reading.forget();
        offers.forget();
    }

    private void bookChanged() {
        spans.forget();
        lineChanged();
    }

    private static boolean areKinds(int a, int b) {
        return a >= 0 && a < KINDS && b >= 0 && b < KINDS;
    }

    /** How many members a row has; 0: it is no row, for a member is too great, or one stands behind the row's end. */
    private static int rowLength(long row, int bits, int greatest, int most) {
        long mask = (1L << bits) - 1;
        long rest = row;
        int length = 0;
        while (length < most && (rest & mask) != 0) {
            if ((rest & mask) > greatest) {
                return 0;
            }
            rest >>>= bits;
            length++;
        }
        return rest == 0 ? length : 0;
    }

    private static int wordOf(int entry) {
        return entry == GUESS_ENTRY ? NONE : entry / FORMS;
    }

    private static int endingOf(int entry) {
        return entry == GUESS_ENTRY ? NONE : entry % FORMS - 1;
    }

    private static void fillRange(int[] row, int from, int to, int v) {
        for (int i = from; i < to; i++) {
            row[i] = v;
        }
    }

    private static int digits(int n) {
        int digits = 0;
        while (digits < 31 && (n >> digits) > 0) {
            digits++;
        }
        return digits;
    }

    /** What the desk was told, and what it has learnt. */
    private static final class Book {
        private final int[] spellingsOf = new int[SOUNDS];
        private final int[] spellingRows = new int[SOUNDS * SPELLINGS];
        private final int[] spellingLengths = new int[SOUNDS * SPELLINGS];
        private final int[] spellingPrices = new int[SOUNDS * SPELLINGS];
        private int words;
        private final long[] wordSounds = new long[WORDS];
        private final long[] wordSigns = new long[WORDS];
        private final int[] wordKinds = new int[WORDS];
        private final int[] wordClasses = new int[WORDS];
        private final int[] counts = new int[WORDS];
        private int endings;
        private final long[] endingSounds = new long[ENDINGS];
        private final int[] endingSigns = new int[ENDINGS];
        private final int[] endingClasses = new int[ENDINGS];
        private final int[] endingPrices = new int[ENDINGS];
        private final int[] prices = {30, 70, 100};
        private final int[] stepPrices = new int[KINDS * KINDS];
        private final int[] pairsOf = new int[KINDS * KINDS];
        /** Kept beside its two parts, for a reading asks for it at every place. */
        private final int[] stepCosts = new int[KINDS * KINDS];

        private boolean addSpelling(int sound, int row, int length, int itsPrice) {
            int first = sound * SPELLINGS;
            int many = spellingsOf[sound];
            if (many >= SPELLINGS) {
                return false;
            }
            for (int i = first; i < first + many; i++) {
                if (spellingRows[i] == row) {
                    return false;
                }
            }
            spellingRows[first + many] = row;
            spellingLengths[first + many] = length;
            spellingPrices[first + many] = itsPrice;
            spellingsOf[sound]++;
            return true;
        }

        private int addWord(long sounds, long signs, int kind, int itsClass) {
            wordSounds[words] = sounds;
            wordSigns[words] = signs;
            wordKinds[words] = kind;
            wordClasses[words] = itsClass;
            words++;
            return words - 1;
        }

        private int addEnding(long sounds, int itsSign, int itsClass, int itsPrice) {
            endingSounds[endings] = sounds;
            endingSigns[endings] = itsSign;
            endingClasses[endings] = itsClass;
            endingPrices[endings] = itsPrice;
            endings++;
            return endings - 1;
        }

        private void priceStep(int at, int v) {
            stepPrices[at] = v;
            stepCosts[at] = v - PAIRS_WORTH * digits(pairsOf[at]);
        }

        private void learn(int[] entries, int first, int length, int by) {
            for (int i = first; i < first + length; i++) {
                int itsWord = wordOf(entries[i]);
                if (itsWord != NONE) {
                    counts[itsWord] += by;
                }
                if (i > first) {
                    int at = kindOf(entries[i - 1]) * KINDS + kindOf(entries[i]);
                    pairsOf[at] += by;
                    priceStep(at, stepPrices[at]);
                }
            }
        }

        private int wordCost(int itsWord) {
            return prices[BASE] - COUNT_WORTH * digits(counts[itsWord]);
        }

        private int kindOf(int entry) {
            return entry == GUESS_ENTRY ? GUESS_KIND : wordKinds[wordOf(entry)];
        }

        private boolean goesTogether(int itsWord, int itsEnding) {
            return itsEnding == NONE || itsEnding < endings && endingClasses[itsEnding] == wordClasses[itsWord];
        }

        private int signsOf(int entry) {
            if (entry == GUESS_ENTRY) {
                return 1;
            }
            return rowLength(wordSigns[wordOf(entry)], SIGN_BITS, GREATEST_SIGN, WORD_SIGNS)
                    + (endingOf(entry) == NONE ? 0 : 1);
        }

        private int signAt(int entry, int i, int letter) {
            if (entry == GUESS_ENTRY) {
                return GUESS_SIGN + letter;
            }
            int itsEnding = endingOf(entry);
            if (itsEnding != NONE && i == signsOf(entry) - 1) {
                return endingSigns[itsEnding];
            }
            return (int) (wordSigns[wordOf(entry)] >> (i * SIGN_BITS)) & GREATEST_SIGN;
        }
    }

    /**
     * The line and the hand. A fixed part stands at its begin, as its end above its entry; the breaks at its ends are
     * wanted and those within are not, as long as it is there, so that no other part can reach into it. The line's begin
     * and end are no places of the hand: the break behind a part at the line's end comes with the letter behind it, if
     * the part is still fixed then.
     */
    private static final class Sheet {
        private int length;
        private final int[] letters = new int[LINE];
        private final int[] breaks = new int[LINE];
        private final int[] fixed = new int[LINE];

        private void copyFrom(Sheet other) {
            length = other.length;
            System.arraycopy(other.letters, 0, letters, 0, LINE);
            System.arraycopy(other.breaks, 0, breaks, 0, LINE);
            System.arraycopy(other.fixed, 0, fixed, 0, LINE);
        }

        private void append(int letter) {
            letters[length] = letter;
            breaks[length] = fixedEndsAt(length) ? WANTED : 0;
            length++;
        }

        private boolean fixedEndsAt(int place) {
            for (int i = 0; i < place; i++) {
                if (fixed[i] >> ENTRY_BITS == place) {
                    return true;
                }
            }
            return false;
        }

        private void clear() {
            length = 0;
            freeHand();
        }

        private void freeHand() {
            Arrays.fill(breaks, 0);
            Arrays.fill(fixed, 0);
        }

        private int fixedParts() {
            int many = 0;
            for (int i = 0; i < LINE; i++) {
                if (fixed[i] != 0) {
                    many++;
                }
            }
            return many;
        }

        private void fix(int begin, int end, int entry) {
            for (int i = 0; i < end; i++) {
                if (fixed[i] >> ENTRY_BITS > begin) {
                    fixed[i] = 0;
                }
            }
            fixed[begin] = (end << ENTRY_BITS) + entry;
            fillRange(breaks, begin + 1, end, UNWANTED);
            wantBreak(begin);
            wantBreak(end);
        }

        private void wantBreak(int place) {
            if (place > 0 && place < length) {
                breaks[place] = WANTED;
            }
        }

        private void moveBreak(int place, int how) {
            breaks[place] = how;
            for (int i = 0; i <= place; i++) {
                int end = fixed[i] >> ENTRY_BITS;
                boolean over = i < place && end > place;
                boolean beside = i == place || end == place;
                if (over && how != UNWANTED || beside && how != WANTED) {
                    fixed[i] = 0;
                }
            }
        }

        private boolean partsAt(int place) {
            return place == 0 || place == length || breaks[place] != UNWANTED;
        }

        /** How far a part from a place may go at most: no break that is wanted is within it. */
        private int reachFrom(int place) {
            int end = place + 1;
            while (end < length && breaks[end] != WANTED) {
                end++;
            }
            return end;
        }
    }

    /** The latest acts, each as the sheet was ahead of it. */
    private static final class Acts {
        private final Sheet[] ring = new Sheet[ACTS];
        private int next;
        private int kept;

        private void keep(Sheet sheet) {
            if (ring[next] == null) {
                ring[next] = new Sheet();
            }
            ring[next].copyFrom(sheet);
            next = (next + 1) % ACTS;
            kept = Math.min(kept + 1, ACTS);
        }

        private boolean undo(Sheet sheet) {
            if (kept == 0) {
                return false;
            }
            next = (next + ACTS - 1) % ACTS;
            kept--;
            if (ring[next] == null) {
                return false;
            }
            sheet.copyFrom(ring[next]);
            return true;
        }

        private void forget() {
            kept = 0;
        }
    }

    /** The lines that were taken and not unlearnt. */
    private static final class Taken {
        private final int[] entries = new int[TAKEN_LINES * LINE];
        private final int[] lengths = new int[TAKEN_LINES];
        private int kept;

        private void keep(int[] line, int length) {
            System.arraycopy(line, 0, entries, kept * LINE, length);
            lengths[kept] = length;
            kept++;
        }
    }

    /**
     * Walks from a place of the line backwards over sounds, and knows for each place that it gets to the least price.
     * Prices stand above a mark (the ending and 1), so that of like prices the first ending's is the least.
     */
    private static final class Speller {
        private static final int MARK_BITS = 4;
        private static final int MARK_MASK = (1 << MARK_BITS) - 1;
        private static final int PLACES = LINE + 1;

        private final Book book;
        private final Sheet sheet;
        private int[] now = new int[PLACES];
        private int[] next = new int[PLACES];
        /** The walk got to places from low to high alone; low above high: it got nowhere. */
        private int low;
        private int high;
        /** For each class where a stem may end, so that one of the endings fills the rest. */
        private final int[] seeds = new int[CLASSES * PLACES];
        private final int[] seedLows = new int[CLASSES];

        private Speller(Book book, Sheet sheet) {
            this.book = book;
            this.sheet = sheet;
        }

        /** What a part of this entry costs over a stretch; FAR: it can't be spelt so. */
        private int costOf(int entry, int begin, int end) {
            if (entry == GUESS_ENTRY) {
                return end == begin + 1 ? book.prices[GUESS] : FAR;
            }
            int itsWord = wordOf(entry);
            int itsEnding = endingOf(entry);
            startAt(end, 0);
            if (itsEnding != NONE) {
                now[end] = book.endingPrices[itsEnding] << MARK_BITS;
                walkBack(book.endingSounds[itsEnding], ENDING_SOUNDS);
            }
            walkBack(book.wordSounds[itsWord], WORD_SOUNDS);
            int found = foundAt(begin);
            return found == FAR ? FAR : book.wordCost(itsWord) + (found >> MARK_BITS);
        }

        private void seedEndings(int end) {
            Arrays.fill(seedLows, end);
            Arrays.fill(seeds, FAR);
            for (int e = 0; e < book.endings; e++) {
                startAt(end, (book.endingPrices[e] << MARK_BITS) + e + 1);
                walkBack(book.endingSounds[e], ENDING_SOUNDS);
                int itsClass = book.endingClasses[e];
                for (int p = low; p <= high; p++) {
                    int at = itsClass * PLACES + p;
                    seeds[at] = Math.min(seeds[at], now[p]);
                }
                if (low <= high) {
                    seedLows[itsClass] = Math.min(seedLows[itsClass], low);
                }
            }
        }

        /** Walks over a word without an ending and with each of its endings at once; seedEndings goes ahead of it. */
        private void walkWord(int itsWord, int end) {
            startAt(end, 0);
            int itsClass = book.wordClasses[itsWord];
            if (itsClass != NONE) {
                low = seedLows[itsClass];
                System.arraycopy(seeds, itsClass * PLACES + low, now, low, end - low);
            }
            walkBack(book.wordSounds[itsWord], WORD_SOUNDS);
        }

        private int foundAt(int place) {
            return place < low || place > high ? FAR : now[place];
        }

        private void startAt(int end, int found) {
            low = end;
            high = end;
            now[end] = found;
        }

        private void walkBack(long sounds, int most) {
            for (int i = most - 1; i >= 0 && low <= high; i--) {
                int sound = (int) (sounds >> (i * SOUND_BITS) & ((1 << SOUND_BITS) - 1)) - 1;
                if (sound >= 0) {
                    stepBack(sound);
                }
            }
        }

        private void stepBack(int sound) {
            for (int p = Math.max(0, low - SPELLING_LETTERS); p < high; p++) {
                next[p] = FAR;
            }
            int nextLow = high;
            int nextHigh = NONE;
            int first = sound * SPELLINGS;
            int behindLast = first + book.spellingsOf[sound];
            for (int p = low; p <= high; p++) {
                for (int s = first; s < behindLast && now[p] != FAR; s++) {
                    int begin = p - book.spellingLengths[s];
                    int price = begin < 0 ? FAR : priceAt(s, begin);
                    if (price != FAR && now[p] + (price << MARK_BITS) < next[begin]) {
                        next[begin] = now[p] + (price << MARK_BITS);
                        nextLow = begin < nextLow ? begin : nextLow;
                        nextHigh = begin > nextHigh ? begin : nextHigh;
                    }
                }
            }
            int[] spent = now;
            now = next;
            next = spent;
            low = nextLow;
            high = nextHigh;
        }

        private int priceAt(int spelling, int begin) {
            int row = book.spellingRows[spelling];
            int length = book.spellingLengths[spelling];
            int slips = 0;
            for (int i = 0; i < length && slips <= 1; i++) {
                if ((row >> (i * LETTER_BITS) & ((1 << LETTER_BITS) - 1)) != sheet.letters[begin + i]) {
                    slips++;
                }
            }
            return slips > 1 ? FAR : book.spellingPrices[spelling] + slips * book.prices[SLIP];
        }
    }

    /**
     * For each stretch of the line and each kind the least value of a part, whatever the hand wants. The stretches with
     * one end are a column: a letter more asks for one column more, and the others stay as they are.
     */
    private static final class Spans {
        private final Book book;
        private final Sheet sheet;
        private final Speller speller;
        private final int[] values = new int[LINE * (LINE + 1) / 2 * KINDS];
        private final int[] lettersRead = new int[LINE];
        private int columns;

        private Spans(Book book, Sheet sheet, Speller speller) {
            this.book = book;
            this.sheet = sheet;
            this.speller = speller;
        }

        private void forget() {
            columns = 0;
        }

        private void renew() {
            int same = 0;
            while (same < columns && same < sheet.length && lettersRead[same] == sheet.letters[same]) {
                same++;
            }
            for (int end = same + 1; end <= sheet.length; end++) {
                lettersRead[end - 1] = sheet.letters[end - 1];
                speller.seedEndings(end);
                fillColumn(end);
                columns = end;
            }
        }

        private void fillColumn(int end) {
            int column = placeOf(0, end);
            fillRange(values, column, column + end * KINDS, NO_VALUE);
            values[placeOf(end - 1, end) + GUESS_KIND] = (book.prices[GUESS] << ENTRY_BITS) + GUESS_ENTRY;
            for (int w = 0; w < book.words; w++) {
                speller.walkWord(w, end);
                if (speller.low <= speller.high) {
                    enter(w, column + book.wordKinds[w]);
                }
            }
        }

        private void enter(int itsWord, int column) {
            int wordCost = book.wordCost(itsWord);
            for (int begin = speller.low; begin <= speller.high; begin++) {
                int found = speller.now[begin];
                if (found != FAR) {
                    int entry = itsWord * FORMS + (found & Speller.MARK_MASK);
                    int value = (wordCost + (found >> Speller.MARK_BITS) << ENTRY_BITS) + entry;
                    int at = column + begin * KINDS;
                    values[at] = Math.min(values[at], value);
                }
            }
        }

        private int placeOf(int begin, int end) {
            return (end * (end - 1) / 2 + begin) * KINDS;
        }
    }

    /** The reading, found from the line's end on and then followed from its begin, so that the first of like ones is it. */
    private static final class Reading {
        private final Book book;
        private final Sheet sheet;
        private final Speller speller;
        private final Spans spans;
        private final int[] fixedValues = new int[LINE];
        /** The least cost of the rest from a place, by the kind of its first part. */
        private final int[] heads = new int[LINE * KINDS];
        /** The least cost of the rest from a place and of the step to it, by the kind of the part ahead of it. */
        private final int[] rests = new int[(LINE + 1) * KINDS];
        private boolean known;
        private int total;
        private int length;
        private final int[] begins = new int[LINE];
        private final int[] ends = new int[LINE];
        private final int[] entries = new int[LINE];
        private final int[] costs = new int[LINE];

        private Reading(Book book, Sheet sheet, Speller speller, Spans spans) {
            this.book = book;
            this.sheet = sheet;
            this.speller = speller;
            this.spans = spans;
        }

        private void forget() {
            known = false;
        }

        private void renew() {
            if (known) {
                return;
            }
            known = true;
            length = 0;
            total = 0;
            if (sheet.length == 0) {
                return;
            }
            spans.renew();
            valueFixedParts();
            fillRange(rests, sheet.length * KINDS, (sheet.length + 1) * KINDS, 0);
            for (int place = sheet.length - 1; place >= 0; place--) {
                fillHeads(place);
                fillRests(place);
            }
            total = leastHead();
            if (total < FAR) {
                follow();
            }
        }

        private void valueFixedParts() {
            for (int i = 0; i < sheet.length; i++) {
                if (sheet.fixed[i] != 0) {
                    int entry = sheet.fixed[i] & ENTRY_MASK;
                    int itsCost = speller.costOf(entry, i, sheet.fixed[i] >> ENTRY_BITS);
                    fixedValues[i] = itsCost == FAR ? NO_VALUE : (itsCost << ENTRY_BITS) + entry;
                }
            }
        }

        /** The least value of a part that the hand allows. */
        private int valueOf(int begin, int end, int kind) {
            int fixed = sheet.fixed[begin];
            if (fixed == 0) {
                return spans.values[spans.placeOf(begin, end) + kind];
            }
            boolean its = fixed >> ENTRY_BITS == end && book.kindOf(fixed & ENTRY_MASK) == kind;
            return its ? fixedValues[begin] : NO_VALUE;
        }

        private void fillHeads(int place) {
            fillRange(heads, place * KINDS, (place + 1) * KINDS, FAR);
            if (!sheet.partsAt(place)) {
                return;
            }
            int reach = sheet.reachFrom(place);
            for (int end = place + 1; end <= reach; end++) {
                for (int kind = 0; kind < KINDS && sheet.partsAt(end); kind++) {
                    int value = valueOf(place, end, kind);
                    int rest = rests[end * KINDS + kind];
                    if (value != NO_VALUE && rest < FAR) {
                        int at = place * KINDS + kind;
                        heads[at] = Math.min(heads[at], (value >> ENTRY_BITS) + rest);
                    }
                }
            }
        }

        private void fillRests(int place) {
            for (int kind = 0; kind < KINDS; kind++) {
                int least = FAR;
                for (int to = 0; to < KINDS; to++) {
                    int head = heads[place * KINDS + to];
                    if (head < FAR) {
                        least = Math.min(least, head + book.stepCosts[kind * KINDS + to]);
                    }
                }
                rests[place * KINDS + kind] = least;
            }
        }

        private int leastHead() {
            int least = FAR;
            for (int kind = 0; kind < KINDS; kind++) {
                least = Math.min(least, heads[kind]);
            }
            return least;
        }

        private void follow() {
            int place = 0;
            int wanted = total;
            while (place < sheet.length && length < LINE) {
                int end = followPart(place, wanted);
                if (end == NONE) {
                    return;
                }
                place = end;
                wanted = rests[place * KINDS + book.kindOf(entries[length - 1])];
            }
        }

        /** Adds the first of the parts from a place with which the rest costs what is wanted; its end. */
        private int followPart(int place, int wanted) {
            int foundEnd = NONE;
            int foundValue = NO_VALUE;
            int reach = sheet.reachFrom(place);
            for (int end = place + 1; end <= reach; end++) {
                for (int kind = 0; kind < KINDS && sheet.partsAt(end); kind++) {
                    int value = valueOf(place, end, kind);
                    boolean first = foundEnd == NONE || (value & ENTRY_MASK) < (foundValue & ENTRY_MASK);
                    if (value != NO_VALUE && first && costFrom(value, end, kind) == wanted) {
                        foundEnd = end;
                        foundValue = value;
                    }
                }
            }
            if (foundEnd != NONE) {
                begins[length] = place;
                ends[length] = foundEnd;
                entries[length] = foundValue & ENTRY_MASK;
                costs[length] = foundValue >> ENTRY_BITS;
                length++;
            }
            return foundEnd;
        }

        /** What the line costs from the last part's end on with this part, the step to it as well. */
        private int costFrom(int value, int end, int kind) {
            int stepCost = length == 0 ? 0 : book.stepCosts[book.kindOf(entries[length - 1]) * KINDS + kind];
            return stepCost + (value >> ENTRY_BITS) + rests[end * KINDS + kind];
        }
    }

    /** The choices for one part of the reading. */
    private static final class Offers {
        private final Book book;
        private final Sheet sheet;
        private final Speller speller;
        private final Reading reading;
        /** The least cost of the line up to a place, by the kind of its last part. */
        private final int[] tails = new int[(LINE + 1) * KINDS];
        /** The least cost of the line up to a place and of the step behind it, by the kind of the part behind it. */
        private final int[] leads = new int[LINE * KINDS];
        private boolean leadsKnown;
        private int listedPart = NONE;
        private int length;
        private final int[] entries = new int[CHOICES];
        private final int[] costs = new int[CHOICES];

        private Offers(Book book, Sheet sheet, Speller speller, Reading reading) {
            this.book = book;
            this.sheet = sheet;
            this.speller = speller;
            this.reading = reading;
        }

        private void forget() {
            leadsKnown = false;
            listedPart = NONE;
        }

        /** False: the reading has no such part. */
        private boolean list(int i) {
            if (i < 0 || i >= reading.length) {
                return false;
            }
            if (i != listedPart) {
                fillAllLeads();
                length = 0;
                offerWords(reading.begins[i], reading.ends[i]);
                offerGuess(reading.begins[i], reading.ends[i]);
                listedPart = i;
            }
            return true;
        }

        private void fillAllLeads() {
            if (leadsKnown) {
                return;
            }
            leadsKnown = true;
            Arrays.fill(tails, FAR);
            for (int place = 0; place < sheet.length; place++) {
                fillLeads(place);
                if (sheet.partsAt(place)) {
                    goOn(place);
                }
            }
        }

        private void fillLeads(int place) {
            for (int kind = 0; kind < KINDS; kind++) {
                int least = place == 0 ? 0 : FAR;
                for (int from = 0; from < KINDS; from++) {
                    int tail = tails[place * KINDS + from];
                    if (tail < FAR) {
                        least = Math.min(least, tail + book.stepCosts[from * KINDS + kind]);
                    }
                }
                leads[place * KINDS + kind] = least;
            }
        }

        private void goOn(int place) {
            int reach = sheet.reachFrom(place);
            for (int end = place + 1; end <= reach; end++) {
                for (int kind = 0; kind < KINDS && sheet.partsAt(end); kind++) {
                    int value = reading.valueOf(place, end, kind);
                    int lead = leads[place * KINDS + kind];
                    if (value != NO_VALUE && lead < FAR) {
                        int at = end * KINDS + kind;
                        tails[at] = Math.min(tails[at], lead + (value >> ENTRY_BITS));
                    }
                }
            }
        }

        private void offerWords(int begin, int end) {
            for (int w = 0; w < book.words; w++) {
                for (int e = NONE; e < book.endings; e++) {
                    if (book.goesTogether(w, e)) {
                        int entry = w * FORMS + e + 1;
                        offer(entry, speller.costOf(entry, begin, end), begin, end);
                    }
                }
            }
        }

        private void offerGuess(int begin, int end) {
            offer(GUESS_ENTRY, speller.costOf(GUESS_ENTRY, begin, end), begin, end);
        }

        /** Entries come in their order, so one goes behind all that cost as much. */
        private void offer(int entry, int itsCost, int begin, int end) {
            int kind = book.kindOf(entry);
            int lead = leads[begin * KINDS + kind];
            int rest = reading.rests[end * KINDS + kind];
            if (itsCost == FAR || lead >= FAR || rest >= FAR) {
                return;
            }
            int whole = lead + itsCost + rest;
            int at = length;
            while (at > 0 && costs[at - 1] > whole) {
                at--;
            }
            if (at >= CHOICES) {
                return;
            }
            length = Math.min(length + 1, CHOICES);
            for (int i = length - 1; i > at; i--) {
                entries[i] = entries[i - 1];
                costs[i] = costs[i - 1];
            }
            entries[at] = entry;
            costs[at] = whole;
        }
    }
}
