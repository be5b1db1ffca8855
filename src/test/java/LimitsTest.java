/** The document's limits: full books, full lines, many acts and lines, and more calls than an object is used for. */
public final class LimitsTest {
    private static final int NONE = SoundLine.NONE;

    private LimitsTest() {
    }

    private static void fullBook() {
        SoundLine x = new SoundLine();
        for (int i = 0; i < 60; i++) {
            Check.due("word " + i, x.word(1, 1 + i, i % 8, NONE), i);
        }
        Check.due("word 60", x.word(1, 1, 0, NONE), NONE);
        Check.due("words", x.about(0), 60);
        Check.illegal("a wrong word, the book full", () -> x.word(0, 1, 0, NONE));
        for (int i = 0; i < 8; i++) {
            Check.due("ending " + i, x.ending(1, 1, 0, 0), i);
        }
        Check.due("ending 8", x.ending(1, 1, 0, 0), NONE);
        Check.due("endings", x.about(1), 8);
        Check.illegal("a wrong ending, the book full", () -> x.ending(1, 0, 0, 0));
        x.spelling(0, 1, 0);
        x.price(1, 200);
        x.type(1);
        Check.due("12 choices are told", x.choices(0), 12);
        Check.due("the last one is the 12th word", x.choice(0, 11, 0), 11);
        Check.missing("choice 12", () -> x.choice(0, 12, 0));
        Check.missing("choosing it", () -> {
            x.choose(0, 12);
            return 0;
        });
        x.type(1);
        x.choose(0, 11);
        x.step(3, 0, 90);
        Check.due("the fixed one stays", x.part(0, 2), 11);
        Check.due("the step is gone round", x.part(1, 2), 1);
        Check.due("in the choices too", x.choice(1, 0, 0), 1);
        x.step(3, 1, 1);
        x.step(3, 2, 1);
        Check.due("the first of the cheapest", x.choice(1, 0, 0), 3);
        Check.due("then the other cheap kinds", x.choice(1, 1, 0), 4);
    }

    /** Stems of six sounds with endings of three, each of four letters, fill a line. */
    private static void longestPart() {
        SoundLine x = new SoundLine();
        x.spelling(0, Check.letters("abcd"), 40);
        x.word(Check.sounds(0, 0, 0, 0, 0, 0), 1, 7, 5);
        x.ending(Check.sounds(0, 0, 0), 2, 5, 60);
        for (int i = 0; i < 9; i++) {
            Check.type(x, "abcx");
        }
        Check.due("nine slips", x.cost(), 100 + 60 + 9 * 70);
        Check.reads("one part", x, "0-36:0/0");
        Check.due("no letter more", x.type(1), NONE);
        x.choose(0, 0);
        Check.due("fixed", x.part(0, 6), 1);
        x.price(0, 200);
        Check.due("dear", x.cost(), 100 + 60 + 9 * 240);
        x.price(2, 200);
        Check.due("dearer", x.cost(), 200 + 60 + 9 * 240);
        Check.due("taken", x.take(), 1);
    }

    private static void acts() {
        SoundLine x = new SoundLine();
        Check.type(x, "abcdefghij");
        for (int i = 0; i < 75; i++) {
            x.setBreak(1 + i % 9, 1 + i % 2);
        }
        Check.due("80 acts are kept", x.about(2), 80);
        for (int i = 0; i < 80; i++) {
            Check.due("back " + i, x.back() ? 1 : 0, 1);
        }
        Check.due("no more", x.back() ? 1 : 0, 0);
        Check.due("the first five letters can't be undone", x.typed(NONE), 5);
    }

    private static void manyActs() {
        SoundLine x = new SoundLine();
        for (int i = 0; i < 150; i++) {
            x.empty();
            x.type(1 + i % 26);
        }
        Check.due("80 are kept", x.about(2), 80);
        for (int i = 149; i > 109; i--) {
            Check.due("letter " + i, x.typed(0), 1 + i % 26);
            x.back();
            Check.due("empty " + i, x.typed(NONE), 0);
            x.back();
        }
        Check.due("the letter ahead of them", x.typed(0), 1 + 109 % 26);
        Check.due("none left", x.about(2), 0);
    }

    private static void takenLines() {
        SoundLine x = new SoundLine();
        x.spelling(0, Check.letters("a"), 0);
        x.price(1, 200);
        x.word(Check.sounds(0), 1, 3, NONE);
        for (int i = 0; i < 40; i++) {
            Check.type(x, "aaa");
            Check.due("take " + i, x.take(), 3);
        }
        Check.due("count", x.count(0), 120);
        Check.due("pairs", x.pairs(3, 3), 80);
        Check.type(x, "aa");
        Check.due("120 has seven digits, 80 too", x.cost(), 2 * (100 - 56) - 14);
        Check.due("40 are kept", x.take(), NONE);
        Check.due("nothing changes: letters", x.typed(NONE), 2);
        Check.due("nothing changes: count", x.count(0), 120);
        Check.due("nothing changes: acts", x.about(2), 2);
        Check.due("unlearn", x.unlearn(), 39);
        Check.due("one can be taken", x.take(), 2);
        for (int i = 39; i >= 0; i--) {
            Check.due("unlearn to " + i, x.unlearn(), i);
        }
        Check.due("count", x.count(0), 0);
        Check.due("pairs", x.pairs(3, 3), 0);
        Check.due("none", x.unlearn(), NONE);
    }

    /** Every letter fits every spelling, so all parts are possible everywhere. */
    private static void dearestBook() {
        SoundLine x = new SoundLine();
        for (int s = 0; s < 50; s++) {
            x.spelling(s, Check.letters("a"), s % 7);
            x.spelling(s, Check.letters("aa"), s % 5);
            x.spelling(s, Check.letters("aaaa"), s % 3);
        }
        for (int w = 0; w < 60; w++) {
            x.word(Check.sounds(w % 50, (w + 1) % 50, (w + 2) % 50, (w + 3) % 50, (w + 4) % 50, w % 9), 1 + w, w % 8, w % 6);
        }
        for (int e = 0; e < 8; e++) {
            x.ending(Check.sounds(e, e + 9, e + 20), 1 + e, e % 6, e);
        }
        Check.type(x, "aaaaaaaaaaaaaaaaaaaaaaaaaaaaaaaaaaaa");
        int first = x.cost();
        Check.due("one part", x.parts(), 1);
        for (int i = 0; i < 20; i++) {
            x.price(0, i);
            Check.due("no slips", x.cost(), first);
            Check.due("choices", x.choices(0), 12);
            Check.due("the first choice", x.choice(0, 0, 2), first);
        }
    }

    /** What calls behind the 512th answer is free, but none of them may throw by itself or fail to end. */
    private static void manyCalls() {
        SoundLine x = new SoundLine();
        x.spelling(0, Check.letters("ab"), 0);
        x.word(Check.sounds(0), 1, 0, NONE);
        int ended = 0;
        for (int i = 0; i < 3000; i++) {
            x.type(1 + i % 3);
            x.cost();
            if (i % 7 == 0 && x.parts() > 0) {
                x.choose(0, 0);
            }
            if (i % 41 == 0) {
                x.take();
            }
            if (i % 83 == 0) {
                x.empty();
            }
            ended++;
        }
        Check.due("rounds of calls that ended", ended, 3000);
    }

    public static void main(String[] args) {
        fullBook();
        longestPart();
        acts();
        manyActs();
        takenLines();
        dearestBook();
        manyCalls();
        Check.end();
    }
}
