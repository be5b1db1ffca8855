/** Desks in the states that tests begin from. Each stays far below the 512 calls of an object's life. */
final class Desks {
    static final int NONE = SoundLine.NONE;
    static final int LINE = 36;

    interface Recipe {
        void make(SoundLine x);
    }

    private Desks() {
    }

    static SoundLine made(Recipe recipe) {
        SoundLine x = new SoundLine();
        recipe.make(x);
        return x;
    }

    /** A new desk: nothing is told to it. */
    static void fresh(SoundLine x) {
    }

    /** Sounds 0 "ka", 1 "na", 2 "kan" (price 3), 3 "a"; words 0 ka-na and 1, the stem kan; ending 0 "a". */
    static void kana(SoundLine x) {
        x.spelling(0, Check.letters("ka"), 0);
        x.spelling(1, Check.letters("na"), 0);
        x.spelling(2, Check.letters("kan"), 3);
        x.spelling(3, Check.letters("a"), 0);
        x.word(Check.sounds(0, 1), 5, 0, NONE);
        x.word(Check.sounds(2), 7, 1, 2);
        x.ending(Check.sounds(3), 9, 2, 5);
    }

    static SoundLine kanaWith(String line) {
        SoundLine x = made(Desks::kana);
        Check.type(x, line);
        return x;
    }

    /** The book of kana, two lines taken, every price changed, two parts chosen (one at the line's end), a break wanted. */
    static void busy(SoundLine x) {
        kana(x);
        x.price(0, 25);
        x.price(1, 60);
        x.price(2, 90);
        x.step(0, 1, 4);
        x.step(1, 8, 6);
        x.step(8, 0, 3);
        Check.type(x, "kanaz");
        x.take();
        Check.type(x, "kana");
        x.take();
        Check.type(x, "kanakanazkan");
        x.choose(1, 1);
        x.choose(3, 0);
        x.setBreak(9, 1);
        x.setBreak(2, 2);
    }

    /** Three spellings of each sound, 60 words, 8 endings; two letters typed, the second one's part chosen. */
    static void fullBook(SoundLine x) {
        for (int sound = 0; sound < 50; sound++) {
            x.spelling(sound, Check.letters("a"), sound % 41);
            x.spelling(sound, Check.letters("bb"), 40);
            x.spelling(sound, Check.letters("ccc"), 0);
        }
        for (int w = 0; w < 60; w++) {
            x.word(Check.sounds(w % 50), 1 + w, w % 8, w % 7 - 1);
        }
        for (int e = 0; e < 8; e++) {
            x.ending(Check.sounds(49 - e), 100 + e, e % 6, 60 - e);
        }
        Check.type(x, "ab");
        x.choose(1, 0);
    }

    /** 36 letters, 34 of them guesses; the part at the line's end is chosen. */
    static void fullLine(SoundLine x) {
        x.spelling(0, Check.letters("zz"), 1);
        x.word(Check.sounds(0), 3, 2, NONE);
        x.price(0, 200);
        Check.type(x, "abcdefghijklmnopqrstuvwxyabcdefghizz");
        x.choose(LINE - 2, 0);
    }

    /** A line that no parting is allowed of: two letters that are no word may have no break. */
    static void noReading(SoundLine x) {
        kana(x);
        Check.type(x, "kanaxykana");
        x.choose(0, 1);
        x.setBreak(5, 2);
        x.setBreak(6, 1);
    }

    /** 40 lines are kept; three letters typed, the first two chosen. */
    static void fortyLines(SoundLine x) {
        x.spelling(0, Check.letters("a"), 0);
        x.word(Check.sounds(0), 1, 3, NONE);
        x.price(1, 200);
        for (int i = 0; i < 40; i++) {
            Check.type(x, i % 2 == 0 ? "a" : "aa");
            x.take();
        }
        Check.type(x, "aaa");
        x.choose(0, 0);
        x.choose(1, 0);
    }

    /** 80 acts are kept, and three letters stay when all are undone. */
    static void eightyActs(SoundLine x) {
        kana(x);
        Check.type(x, "kanakana");
        for (int i = 0; i < 73; i++) {
            x.setBreak(4, i % 2);
        }
        x.choose(0, 1);
        x.choose(1, 1);
    }
}
