/**
 * Each sentence of the document with which a call is refused, in all states that it can be asked in: what it answers,
 * and that nothing changes that another call shows.
 */
public final class RefusedTest {
    private static final int NONE = SoundLine.NONE;
    private static final int LEAST = Integer.MIN_VALUE;
    private static final int MOST = Integer.MAX_VALUE;
    private static final Desks.Recipe[] STATES = {
        Desks::fresh, Desks::busy, Desks::fullBook, Desks::fullLine, Desks::noReading, Desks::fortyLines, Desks::eightyActs};
    private static final String[] NAMES = {
        "a new desk", "a busy desk", "a full book", "a full line", "a line without a reading", "40 lines", "80 acts"};
    private static final int[] LETTERS = {0, 12, 2, 36, 10, 3, 8};
    private static final int[] PARTS = {0, 4, 2, 35, 0, 3, 2};
    private static final int[] SIGNS = {0, 5, 2, 35, 0, 3, 4};
    private static final int[] WORDS = {0, 2, 60, 1, 2, 1, 2};

    private RefusedTest() {
    }

    /** The states are what their names say; else what is refused in them would show nothing. */
    private static void states() {
        Check.sentence("the states that the calls are refused in");
        for (int s = 0; s < STATES.length; s++) {
            SoundLine x = Desks.made(STATES[s]);
            Check.due("letters of " + NAMES[s], x.typed(NONE), LETTERS[s]);
            Check.due("parts of " + NAMES[s], x.parts(), PARTS[s]);
            Check.due("signs of " + NAMES[s], x.sign(NONE), SIGNS[s]);
            Check.due("words of " + NAMES[s], x.about(0), WORDS[s]);
        }
        Check.reads("the busy desk", Desks.made(Desks::busy), "0-4:0 4-8:1/0* 8-9:G 9-12:1*");
        Check.due("endings of the full book", Desks.made(Desks::fullBook).about(1), 8);
        Check.due("cost without a reading", Desks.made(Desks::noReading).cost(), -1000000);
        Check.due("40 lines", Desks.made(Desks::fortyLines).about(3), 40);
        Check.due("80 acts", Desks.made(Desks::eightyActs).about(2), 80);
    }

    private static void illegal(String what, Twins.Use use) {
        for (int s = 0; s < STATES.length; s++) {
            Twins.illegal(what + ", " + NAMES[s], STATES[s], use);
        }
    }

    private static void missing(String what, Twins.Use use) {
        for (int s = 0; s < STATES.length; s++) {
            Twins.missing(what + ", " + NAMES[s], STATES[s], use);
        }
    }

    private static void spelling() {
        Check.sentence("2: IllegalArgumentException: no such SOUND, row, PRICE");
        for (int sound : new int[] {LEAST, -1, 50, MOST}) {
            illegal("spelling of sound " + sound, x -> x.spelling(sound, Check.letters("q"), 0));
        }
        long[] rows = {0, 27, 1L << 5, Check.row(5, 1, 27), Check.row(5, 1, 0, 1), Check.letters("abcde"), 1 | 1L << 63, -1};
        for (long row : rows) {
            illegal("spelling by row " + row, x -> x.spelling(1, row, 0));
        }
        for (int price : new int[] {LEAST, -1, 41, MOST}) {
            illegal("spelling for " + price, x -> x.spelling(1, Check.letters("q"), price));
        }
    }

    private static void spellingTwice() {
        Check.sentence("2: NONE: it has 3, or this one");
        for (int sound : new int[] {0, 49}) {
            Twins.none("a fourth spelling of " + sound, Desks::fullBook, x -> x.spelling(sound, Check.letters("d"), 0));
            Twins.none("one of its three", Desks::fullBook, x -> x.spelling(sound, Check.letters("bb"), 40));
        }
        Twins.none("this one", Desks::busy, x -> x.spelling(2, Check.letters("kan"), 3));
        Twins.none("this one for less", Desks::busy, x -> x.spelling(2, Check.letters("kan"), 0));
        Twins.none("this one for more", Desks::busy, x -> x.spelling(0, Check.letters("ka"), 40));
    }

    private static void word() {
        Check.sentence("3: IllegalArgumentException: a row, KIND, CLASS is none");
        long[] sounds = {0, 51, 63, 1L << 6, Check.row(6, 1, 51), Check.row(6, 1, 0, 1), Check.row(6, 1, 1, 1, 1, 1, 1, 1), 1 | 1L << 63};
        for (long row : sounds) {
            illegal("word by sounds " + row, x -> x.word(row, 1, 0, NONE));
        }
        long[] signs = {0, 1L << 14, Check.row(14, 1, 0, 1), Check.row(14, 1, 1, 1, 1, 1), 1 | 1L << 63, -1};
        for (long row : signs) {
            illegal("word by signs " + row, x -> x.word(1, row, 0, NONE));
        }
        for (int kind : new int[] {LEAST, -1, 8, MOST}) {
            illegal("word of kind " + kind, x -> x.word(1, 1, kind, NONE));
        }
        for (int itsClass : new int[] {LEAST, -2, 6, MOST}) {
            illegal("word of class " + itsClass, x -> x.word(1, 1, 0, itsClass));
        }
        Check.sentence("3: NONE: there are 60");
        Twins.none("word 60", Desks::fullBook, x -> x.word(1, 1, 0, NONE));
        Twins.none("word 60, a stem", Desks::fullBook, x -> x.word(Check.sounds(49), 16383, 7, 5));
    }

    private static void ending() {
        Check.sentence("4: IllegalArgumentException: the row, sign, CLASS, PRICE is none");
        long[] sounds = {0, 51, 63, 1L << 6, Check.row(6, 1, 51), Check.row(6, 1, 0, 1), Check.row(6, 1, 1, 1, 1), 1 | 1L << 63};
        for (long row : sounds) {
            illegal("ending by sounds " + row, x -> x.ending(row, 1, 0, 0));
        }
        for (int sign : new int[] {LEAST, -1, 0, 16384, MOST}) {
            illegal("ending of sign " + sign, x -> x.ending(1, sign, 0, 0));
        }
        for (int itsClass : new int[] {LEAST, NONE, 6, MOST}) {
            illegal("ending of class " + itsClass, x -> x.ending(1, 1, itsClass, 0));
        }
        for (int price : new int[] {LEAST, -1, 61, MOST}) {
            illegal("ending for " + price, x -> x.ending(1, 1, 0, price));
        }
        Check.sentence("4: NONE: there are 8");
        Twins.none("ending 8", Desks::fullBook, x -> x.ending(1, 1, 0, 0));
        Twins.none("ending 8 of the last class", Desks::fullBook, x -> x.ending(Check.sounds(49), 16383, 5, 60));
    }

    private static void prices() {
        Check.sentence("5: IllegalArgumentException: no such PRICE, v is not 0 to 200");
        for (int what : new int[] {LEAST, -1, 3, MOST}) {
            illegal("price " + what, x -> x.price(what, 1));
        }
        for (int what = 0; what < 3; what++) {
            int which = what;
            for (int v : new int[] {LEAST, -1, 201, MOST}) {
                illegal("price " + which + " of " + v, x -> x.price(which, v));
            }
        }
        Check.sentence("6: IllegalArgumentException: no such KINDS (0 to 8), v is not 0 to 90");
        for (int kind : new int[] {LEAST, -1, 9, MOST}) {
            illegal("step from " + kind, x -> x.step(kind, 1, 1));
            illegal("step to " + kind, x -> x.step(1, kind, 1));
        }
        for (int v : new int[] {LEAST, -1, 91, MOST}) {
            illegal("step of " + v, x -> x.step(0, 1, v));
            illegal("step of guesses of " + v, x -> x.step(8, 8, v));
        }
    }

    private static void type() {
        Check.sentence("7: IllegalArgumentException: it is none");
        for (int letter : new int[] {LEAST, -1, 0, 27, MOST}) {
            illegal("letter " + letter, x -> x.type(letter));
        }
        Check.sentence("7: NONE: there are 36");
        Twins.none("letter 37", Desks::fullLine, x -> x.type(1));
        Twins.none("letter 37, another one", Desks::fullLine, x -> x.type(26));
        Check.sentence("8: NoSuchElementException: there is none such");
        for (int s = 0; s < STATES.length; s++) {
            for (int i : new int[] {LEAST, -2, LETTERS[s], LETTERS[s] + 1, MOST}) {
                Twins.missing("typed(" + i + "), " + NAMES[s], STATES[s], x -> x.typed(i));
            }
        }
    }

    private static void parts() {
        Check.sentence("11: NoSuchElementException: there is none, another what");
        for (int s = 0; s < STATES.length; s++) {
            for (int i : new int[] {LEAST, -1, PARTS[s], PARTS[s] + 1, MOST}) {
                for (int w = 0; w < 7; w++) {
                    int what = w;
                    Twins.missing("part(" + i + ", " + what + "), " + NAMES[s], STATES[s], x -> x.part(i, what));
                }
            }
        }
        for (int what : new int[] {LEAST, -1, 7, MOST}) {
            missing("part(0, " + what + ")", x -> x.part(0, what));
            missing("the last part's " + what, x -> x.part(x.parts() - 1, what));
        }
        Check.sentence("12: NoSuchElementException: there is none such");
        for (int s = 0; s < STATES.length; s++) {
            for (int k : new int[] {LEAST, -2, SIGNS[s], SIGNS[s] + 1, MOST}) {
                Twins.missing("sign(" + k + "), " + NAMES[s], STATES[s], x -> x.sign(k));
            }
        }
    }

    private static void choices() {
        Check.sentence("13: NoSuchElementException: there is no such PART");
        for (int s = 0; s < STATES.length; s++) {
            for (int i : new int[] {LEAST, -1, PARTS[s], PARTS[s] + 1, MOST}) {
                Twins.missing("choices(" + i + "), " + NAMES[s], STATES[s], x -> x.choices(i));
            }
        }
        Check.sentence("14: NoSuchElementException: there is none, another what");
        noSuchChoice((i, k) -> x -> x.choice(i, k, 0));
        for (int what : new int[] {LEAST, -1, 3, MOST}) {
            missing("choice(0, 0, " + what + ")", x -> x.choice(0, 0, what));
        }
        Check.sentence("15: NoSuchElementException likewise");
        noSuchChoice((i, k) -> x -> {
            x.choose(i, k);
            return 0;
        });
    }

    private interface OfAChoice {
        Twins.Use use(int i, int k);
    }

    private static void noSuchChoice(OfAChoice of) {
        for (int s = 0; s < STATES.length; s++) {
            for (int i : new int[] {LEAST, -1, PARTS[s], PARTS[s] + 1, MOST}) {
                Twins.missing("choice 0 of part " + i + ", " + NAMES[s], STATES[s], of.use(i, 0));
            }
            int last = PARTS[s] - 1;
            int behindLast = last < 0 ? 0 : Desks.made(STATES[s]).choices(last);
            for (int k : new int[] {LEAST, -1, behindLast, behindLast + 1, 12, MOST}) {
                Twins.missing("choice " + k + " of part " + last + ", " + NAMES[s], STATES[s], of.use(last, k));
            }
        }
    }

    private static void setBreak() {
        Check.sentence("16: IllegalArgumentException: no such place between two LETTERS, how is not 0 to 2");
        for (int s = 0; s < STATES.length; s++) {
            for (int place : new int[] {LEAST, -1, 0, LETTERS[s], LETTERS[s] + 1, MOST}) {
                for (int h = 0; h < 3; h++) {
                    int how = h;
                    Twins.illegal("setBreak(" + place + ", " + how + "), " + NAMES[s], STATES[s], x -> x.setBreak(place, how));
                }
            }
        }
        for (int how : new int[] {LEAST, -1, 3, MOST}) {
            illegal("setBreak(1, " + how + ")", x -> x.setBreak(1, how));
            Twins.illegal("setBreak(4, " + how + ")", Desks::busy, x -> x.setBreak(4, how));
            Twins.illegal("setBreak(6, " + how + ")", Desks::busy, x -> x.setBreak(6, how));
        }
    }

    /** Letters that no act is left of: 81 acts, of which 80 are undone. */
    private static void undone(SoundLine x) {
        Desks.eightyActs(x);
        for (int i = 0; i < 80; i++) {
            x.back();
        }
    }

    private static void justTaken(SoundLine x) {
        Desks.busy(x);
        x.take();
    }

    private static void back() {
        Check.sentence("19: False: there is nothing to undo");
        Twins.nothingToUndo("a new desk", Desks::fresh);
        Twins.nothingToUndo("a book alone", Desks::kana);
        Twins.nothingToUndo("a line just taken", RefusedTest::justTaken);
        Twins.nothingToUndo("letters whose acts are kept no more", RefusedTest::undone);
        Check.due("they are there", Desks.made(RefusedTest::undone).typed(NONE), 3);
    }

    private static void take() {
        Check.sentence("20: NONE, and nothing changes: there is no READING, THE LINE is empty, or 40 are kept");
        Twins.none("no reading", Desks::noReading, SoundLine::take);
        Twins.none("a new desk", Desks::fresh, SoundLine::take);
        Twins.none("an empty line", RefusedTest::justTaken, SoundLine::take);
        Twins.none("emptied by hand", x -> {
            Desks.busy(x);
            x.empty();
        }, SoundLine::take);
        Twins.none("40 are kept", Desks::fortyLines, SoundLine::take);
        Twins.none("40 are kept, the line empty", x -> {
            Desks.fortyLines(x);
            x.empty();
        }, SoundLine::take);
    }

    private static void unlearn() {
        Check.sentence("21: NONE: there is none");
        Twins.none("a new desk", Desks::fresh, SoundLine::unlearn);
        Twins.none("letters, none taken", Desks::noReading, SoundLine::unlearn);
        Twins.none("all unlearnt", x -> {
            Desks.busy(x);
            x.unlearn();
            x.unlearn();
        }, SoundLine::unlearn);
    }

    private static void learnt() {
        Check.sentence("22: NoSuchElementException: no such WORD");
        for (int s = 0; s < STATES.length; s++) {
            for (int w : new int[] {LEAST, NONE, WORDS[s], WORDS[s] + 1, 60, MOST}) {
                Twins.missing("count(" + w + "), " + NAMES[s], STATES[s], x -> x.count(w));
            }
        }
        Check.sentence("23: NoSuchElementException: no such KINDS");
        for (int kind : new int[] {LEAST, -1, 9, MOST}) {
            missing("pairs from " + kind, x -> x.pairs(kind, 1));
            missing("pairs to " + kind, x -> x.pairs(1, kind));
        }
        Check.sentence("24: NoSuchElementException: another what");
        for (int what : new int[] {LEAST, -1, 5, MOST}) {
            missing("about(" + what + ")", x -> x.about(what));
        }
    }

    public static void main(String[] args) {
        states();
        spelling();
        spellingTwice();
        word();
        ending();
        prices();
        type();
        parts();
        choices();
        setBreak();
        back();
        take();
        unlearn();
        learnt();
        Check.end();
    }
}
