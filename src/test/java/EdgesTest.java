/** The line, its reading and what is learnt, at the edges that the document names: empty, least, most, and just beyond. */
public final class EdgesTest {
    private static final int NONE = SoundLine.NONE;
    private static final int NO_PARTING = -1000000;

    private EdgesTest() {
    }

    private static void newObject() {
        Check.sentence("1: No SPELLINGS, WORDS; THE LINE empty, THE HAND free");
        Check.due("NONE", SoundLine.NONE, -1);
        SoundLine x = new SoundLine();
        for (int what = 0; what < 5; what++) {
            Check.due("about(" + what + ")", x.about(what), 0);
        }
        Check.due("letters", x.typed(NONE), 0);
        Check.missing("no word", () -> x.count(0));
        for (int sound = 0; sound < 50; sound++) {
            Check.due("no spelling of " + sound, x.spelling(sound, 1, 0), 1);
        }
        Check.due("the first word", x.word(1, 1, 0, NONE), 0);
        Check.due("the first ending", x.ending(1, 1, 0, 0), 0);
        Check.type(x, "ab");
        Check.due("no break", x.setBreak(1, 0), 0);
        SoundLine y = new SoundLine();
        Check.due("another object has none of it", y.about(0), 0);
        Check.due("nor letters", y.typed(NONE), 0);
        Check.due("nor spellings", y.spelling(0, 1, 0), 1);
    }

    private static void emptyLine() {
        Check.sentence("THE LINE empty: it has no PARTS");
        Desks.Recipe[] ways = {Desks::fresh, Desks::kana, EdgesTest::busyTaken, EdgesTest::busyEmptied, EdgesTest::letterUndone};
        for (int i = 0; i < ways.length; i++) {
            SoundLine x = Desks.made(ways[i]);
            Check.due("parts, way " + i, x.parts(), 0);
            Check.due("cost, way " + i, x.cost(), 0);
            Check.due("signs, way " + i, x.sign(NONE), 0);
            Check.due("letters, way " + i, x.typed(NONE), 0);
            Check.due("fixed parts, way " + i, x.about(4), 0);
            Check.missing("typed(0), way " + i, () -> x.typed(0));
            Check.missing("part(0, 0), way " + i, () -> x.part(0, 0));
            Check.missing("sign(0), way " + i, () -> x.sign(0));
            Check.missing("choices(0), way " + i, () -> x.choices(0));
            Check.illegal("setBreak(0, 0), way " + i, () -> x.setBreak(0, 0));
            Check.illegal("setBreak(1, 0), way " + i, () -> x.setBreak(1, 0));
            Check.due("take, way " + i, x.take(), NONE);
            Check.due("the first letter, way " + i, x.type(26), 1);
            Check.due("a guess, way " + i, x.sign(0), 20026);
        }
    }

    private static void busyTaken(SoundLine x) {
        Desks.busy(x);
        x.take();
    }

    private static void busyEmptied(SoundLine x) {
        Desks.busy(x);
        x.empty();
    }

    private static void letterUndone(SoundLine x) {
        x.type(1);
        x.back();
    }

    /** Every row of letters that differs at some places, as bits of slips, from a spelling. */
    private static void slips() {
        Check.sentence("of which at most one LETTER is another one");
        for (int length = 1; length <= 4; length++) {
            for (int slips = 0; slips < 1 << length; slips++) {
                SoundLine x = new SoundLine();
                x.spelling(0, Check.letters("abcd".substring(0, length)), 0);
                x.word(1, 1, 0, NONE);
                x.price(0, 9);
                x.price(1, 200);
                for (int i = 0; i < length; i++) {
                    x.type((slips >> i & 1) == 0 ? 1 + i : 26);
                }
                for (int place = 1; place < length; place++) {
                    x.setBreak(place, 2);
                }
                int many = Integer.bitCount(slips);
                int due = many <= 1 ? 100 + 9 * many : NO_PARTING;
                Check.due(length + " letters, slips " + slips, x.cost(), due);
            }
        }
        Check.sentence("SLIP for each LETTER that is another one");
        SoundLine x = new SoundLine();
        x.spelling(0, Check.letters("abcd"), 1);
        x.word(Check.sounds(0, 0, 0, 0, 0, 0), 1, 0, 0);
        x.ending(Check.sounds(0, 0, 0), 2, 0, 0);
        x.price(0, 9);
        x.price(1, 200);
        Check.type(x, "zbcdazcdabzdabczzbcdazcdabzdabczzbcd");
        Check.due("one in each of nine spellings", x.cost(), 100 + 9 * 10);
        Check.reads("one part of 36 letters", x, "0-36:0/0");
    }

    private static void leastSpelling() {
        Check.sentence("the SPELLING cost is the least, over all ways");
        SoundLine x = new SoundLine();
        x.spelling(0, Check.letters("a"), 4);
        x.spelling(0, Check.letters("aa"), 7);
        x.word(Check.sounds(0, 0), 1, 0, NONE);
        x.price(1, 200);
        Check.type(x, "aaa");
        Check.due("the short one and the long one", x.cost(), 111);
        x.spelling(0, Check.letters("ab"), 0);
        x.price(0, 2);
        Check.due("the cheap one with a slip", x.cost(), 106);
        x.price(0, 5);
        Check.due("the cheap one with a dearer slip", x.cost(), 109);
        x.price(0, 8);
        Check.due("no slip", x.cost(), 111);
        x.spelling(1, Check.letters("x"), 0);
        x.word(Check.sounds(2), 1, 0, NONE);
        x.price(2, 0);
        Check.due("a sound without a spelling spells nothing", x.part(0, 2), 0);
    }

    private static void guesses() {
        Check.sentence("Or a GUESS: one LETTER");
        SoundLine x = new SoundLine();
        x.type(7);
        Check.reads("one letter", x, "0-1:G");
        x.type(8);
        Check.reads("two letters", x, "0-1:G 1-2:G");
        x.setBreak(1, 2);
        Check.due("no guess of two letters", x.cost(), NO_PARTING);
        Check.sentence("12: a GUESS's is 20000 and its LETTER");
        for (int letter = 1; letter <= 26; letter++) {
            SoundLine y = new SoundLine();
            y.type(letter);
            Check.due("letter " + letter, y.sign(0), 20000 + letter);
        }
        Check.sentence("of a GUESS the PRICE for it");
        SoundLine z = new SoundLine();
        for (int i = 1; i <= 36; i++) {
            z.type(1);
            Check.due(i + " guesses", z.cost(), 70 * i);
            Check.due(i + " parts", z.parts(), i);
            Check.due(i + " signs", z.sign(NONE), i);
        }
    }

    private static int bits(int n) {
        int bits = 0;
        for (int rest = n; rest > 0; rest /= 2) {
            bits++;
        }
        return bits;
    }

    private static void bitsOfCounts() {
        Check.sentence("BITS of n: how many binary digits it has, 0: 0");
        SoundLine x = new SoundLine();
        x.spelling(0, 1, 0);
        x.word(1, 1, 0, NONE);
        x.price(1, 200);
        for (int count = 0; count <= 40; count++) {
            x.type(1);
            Check.due("count", x.count(0), count);
            Check.due("the cost with count " + count, x.cost(), 100 - 8 * bits(count));
            Check.due("taken", x.take(), count < 40 ? 1 : NONE);
        }
        for (int count = 39; count >= 0; count--) {
            x.unlearn();
            Check.due("the cost with count " + count + " again", x.cost(), 100 - 8 * bits(count));
        }
    }

    private static void bitsOfPairs() {
        Check.sentence("less 2 times the BITS of its PAIRS");
        SoundLine x = new SoundLine();
        x.price(1, 0);
        x.step(8, 8, 90);
        for (int pairs = 0; pairs <= 40; pairs++) {
            Check.type(x, "ab");
            Check.due("pairs", x.pairs(8, 8), pairs);
            Check.due("the cost with pairs " + pairs, x.cost(), 90 - 2 * bits(pairs));
            Check.due("taken", x.take(), pairs < 40 ? 2 : NONE);
        }
        for (int pairs = 39; pairs >= 0; pairs--) {
            x.unlearn();
            Check.due("the cost with pairs " + pairs + " again", x.cost(), 90 - 2 * bits(pairs));
        }
    }

    /** A word counts as often as it stands in the line, and so does a step. */
    private static void mostLearnt() {
        Check.sentence("THE READING's WORDS have their COUNTS 1 more, each STEP's PAIRS 1 more");
        SoundLine x = new SoundLine();
        x.spelling(0, Check.letters("ab"), 0);
        x.word(1, 1, 2, NONE);
        x.price(1, 200);
        for (int line = 0; line < 10; line++) {
            for (int i = 0; i < 36; i++) {
                x.type(1 + i % 2);
            }
            Check.due("line " + line, x.take(), 18);
        }
        Check.due("each part counts", x.count(0), 180);
        Check.due("each step counts", x.pairs(2, 2), 170);
        Check.type(x, "abab");
        Check.due("both have 8 digits", x.cost(), 2 * (100 - 64) - 16);
        Check.due("no other step", x.pairs(8, 2) + x.pairs(2, 8) + x.pairs(8, 8), 0);
    }

    private static void belowZero() {
        Check.sentence("A COST may be below 0");
        SoundLine x = new SoundLine();
        x.spelling(0, 1, 0);
        x.word(1, 1, 0, NONE);
        x.word(1, 2, 1, NONE);
        x.price(2, 0);
        Check.type(x, "aa");
        Check.due("0 is a cost", x.cost(), 0);
        Check.due("and a reading", x.parts(), 2);
        x.take();
        Check.type(x, "aa");
        Check.due("two words of count 2, one pair", x.cost(), -2 * 16 - 2);
        Check.due("of a part", x.part(0, 5), -16);
        Check.offers("of choices", x, 0, "0=-34 1=-16 G=54");
        Check.due("taken", x.take(), 2);
        Check.due("a longer line may be cheaper", readOf(x, "aaa"), -3 * 24 - 2 * 4);
        for (int place = 1; place <= 2; place++) {
            x.setBreak(place, 2);
            Check.due("no parting, a break less at " + place, x.cost(), NO_PARTING);
            Check.due("nor parts", x.parts(), 0);
            x.back();
        }
    }

    private static void nothingCosts() {
        Check.sentence("-1000000: no PARTING is ALLOWED; (0 without one)");
        SoundLine x = new SoundLine();
        x.spelling(0, 1, 0);
        x.word(1, 1, 0, NONE);
        x.price(1, 0);
        x.price(2, 0);
        Check.type(x, "abca");
        Check.due("a parting for nothing", x.cost(), 0);
        Check.due("has parts", x.parts(), 4);
        for (int place = 1; place <= 3; place++) {
            x.setBreak(place, 2);
            Check.due("none, a break less at " + place, x.cost(), NO_PARTING);
            Check.due("no parts", x.parts(), 0);
            Check.due("no signs", x.sign(NONE), 0);
            x.back();
        }
        Check.due("taken for nothing", x.take(), 4);
    }

    private static int readOf(SoundLine x, String letters) {
        Check.type(x, letters);
        return x.cost();
    }

    private static void stepsBetween() {
        Check.sentence("between each two the STEP of their KINDS (an ENDING changes none)");
        SoundLine x = Desks.kanaWith("kana");
        x.choose(0, 1);
        x.step(1, 1, 50);
        x.step(1, 8, 5);
        x.step(8, 1, 6);
        Check.due("one part has no step", x.cost(), 108);
        x.type(26);
        Check.due("two parts have one", x.cost(), 108 + 5 + 70);
        Check.due("the kind of a stem with its ending", x.part(0, 4), 1);
        SoundLine y = new SoundLine();
        y.step(8, 8, 1);
        for (int i = 0; i < 36; i++) {
            y.type(1);
        }
        Check.due("36 parts have 35", y.cost(), 36 * 70 + 35);
    }

    private static void likeOnes() {
        Check.sentence("the first PARTS in which two differ, by the WORD's number");
        SoundLine x = new SoundLine();
        x.spelling(0, 1, 0);
        x.price(1, 100);
        x.type(1);
        Check.reads("a guess alone", x, "0-1:G");
        x.word(1, 1, 0, 0);
        x.word(1, 1, 0, 0);
        Check.reads("the lesser number; a GUESS behind all", x, "0-1:0");
        x.price(1, 99);
        Check.reads("a cheaper guess", x, "0-1:G");
        Check.sentence("then the ENDING's (none ahead of all)");
        SoundLine y = new SoundLine();
        y.spelling(0, Check.letters("a"), 0);
        y.spelling(0, Check.letters("aa"), 0);
        y.word(1, 1, 0, 0);
        y.ending(1, 2, 0, 0);
        y.ending(1, 3, 0, 0);
        Check.type(y, "aa");
        y.setBreak(1, 2);
        Check.reads("none ahead of all", y, "0-2:0");
        Check.offers("in this order", y, 0, "0=100 0/0=100 0/1=100");
        y.type(1);
        y.setBreak(2, 2);
        Check.reads("the lesser ending", y, "0-3:0/0");
        Check.sentence("then the lesser end");
        SoundLine z = new SoundLine();
        z.spelling(0, Check.letters("aa"), 0);
        z.spelling(0, Check.letters("aaa"), 0);
        z.word(1, 1, 0, NONE);
        z.price(1, 200);
        Check.type(z, "aaaaa");
        Check.reads("2 and 3, not 3 and 2", z, "0-2:0 2-5:0");
        Check.sentence("the first PARTS in which two differ");
        z.word(1, 1, 0, NONE);
        z.setBreak(3, 1);
        Check.reads("the first word wherever it can be", z, "0-3:0 3-5:0");
        z.choose(1, 1);
        Check.reads("the other is first all the same", z, "0-3:0 3-5:1*");
    }

    /** What comes first in the order is weighed first: a lesser end does not help a later word or ending. */
    private static void orderOfLikeOnes() {
        Check.sentence("by the WORD's number (a GUESS behind all), then the ENDING's (none ahead of all), then the lesser end");
        SoundLine x = new SoundLine();
        x.spelling(0, Check.letters("aa"), 0);
        x.spelling(1, Check.letters("a"), 0);
        x.word(Check.sounds(0), 1, 5, NONE);
        x.word(Check.sounds(1), 2, 0, NONE);
        x.price(0, 200);
        x.price(1, 200);
        Check.type(x, "aaa");
        Check.reads("the first word, not the lesser end", x, "0-2:0 2-3:1");
        x.price(1, 50);
        x.price(0, 0);
        x.price(2, 100);
        x.setBreak(2, 1);
        Check.reads("a word, not the guess of the lesser end", x, "0-2:0 2-3:G");
        SoundLine y = new SoundLine();
        y.spelling(0, Check.letters("a"), 0);
        y.spelling(0, Check.letters("aaa"), 0);
        y.word(1, 1, 0, 0);
        y.ending(1, 2, 0, 0);
        y.price(0, 200);
        y.price(2, 0);
        Check.type(y, "aaaa");
        Check.reads("the lesser end", y, "0-1:0 1-2:0 2-3:0 3-4:0");
        y.setBreak(1, 2);
        Check.reads("no ending, not the lesser end", y, "0-3:0 3-4:0");
        y.setBreak(3, 2);
        Check.reads("the lesser end of the two with the ending", y, "0-2:0/0 2-4:0/0");
    }

    /** A reading that was asked for does not outlive what it was made of. */
    private static void toldAtOnce() {
        Check.sentence("THE READING: the ALLOWED PARTING of least COST");
        SoundLine x = new SoundLine();
        Check.type(x, "abb");
        Check.due("guesses", x.cost(), 210);
        x.word(Check.sounds(0), 1, 3, 2);
        Check.due("a word that can't be spelt", x.cost(), 210);
        x.spelling(0, Check.letters("ab"), 10);
        Check.due("a spelling", x.cost(), 180);
        Check.due("its choices", x.choices(0), 1);
        x.spelling(1, Check.letters("b"), 1);
        Check.due("a spelling of another sound", x.cost(), 180);
        x.ending(Check.sounds(1), 1, 2, 2);
        Check.due("an ending", x.cost(), 113);
        x.price(2, 99);
        Check.due("a price", x.cost(), 112);
        x.word(Check.sounds(0, 1), 1, 4, NONE);
        Check.due("a word", x.cost(), 110);
        x.type(26);
        Check.due("a letter", x.cost(), 180);
        x.step(4, 8, 1);
        Check.due("a step", x.cost(), 181);
        x.step(4, 8, 90);
        Check.due("another step", x.cost(), 182);
        x.take();
        Check.due("a line taken", x.cost(), 0);
        Check.type(x, "abbz");
        Check.due("what it taught", x.cost(), 172);
        x.unlearn();
        Check.due("unlearnt", x.cost(), 182);
    }

    private static void noReading() {
        Check.sentence("9: -1000000: no PARTING is ALLOWED");
        SoundLine x = Desks.made(Desks::noReading);
        Check.due("cost", x.cost(), NO_PARTING);
        Check.sentence("10: (0 without one)");
        Check.due("parts", x.parts(), 0);
        Check.sentence("12: k NONE: how many");
        Check.due("signs", x.sign(NONE), 0);
        Check.sentence("8: i NONE: how many");
        Check.due("letters are there", x.typed(NONE), 10);
        Check.due("the first", x.typed(0), 11);
        Check.due("the last", x.typed(9), 1);
        Check.due("the fixed part is there", x.about(4), 1);
        x.setBreak(5, 0);
        Check.due("a free break makes one", x.cost(), 108 + 70 + 70 + 100);
    }

    private static void lastOnes() {
        Check.sentence("11: NoSuchElementException: there is none");
        SoundLine x = Desks.made(Desks::fullLine);
        Check.due("the last of 35 parts", x.part(34, 1), 36);
        Check.missing("part 35", () -> x.part(35, 1));
        Check.sentence("12: NoSuchElementException: there is none such");
        Check.due("the last of 35 signs", x.sign(34), 3);
        Check.due("the one ahead of it", x.sign(33), 20009);
        Check.missing("sign 35", () -> x.sign(35));
        Check.sentence("8: NoSuchElementException: there is none such");
        Check.due("the last of 36 letters", x.typed(35), 26);
        Check.missing("letter 36", () -> x.typed(36));
        Check.sentence("13: NoSuchElementException: there is no such PART");
        Check.due("choices of the last part", x.choices(34), 1);
        Check.missing("choices of part 35", () -> x.choices(35));
        Check.sentence("14: NoSuchElementException: there is none");
        Check.due("the only choice", x.choice(34, 0, 0), 0);
        Check.missing("another one", () -> x.choice(34, 1, 0));
    }

    /** As many words of one sound as there are choices wanted beside the guess; the later ones are cheaper. */
    private static SoundLine manyChoices(int words, int guess) {
        SoundLine x = new SoundLine();
        x.spelling(0, 1, 0);
        x.price(1, guess);
        for (int w = 0; w < words; w++) {
            x.word(1, 1 + w, 0, NONE);
        }
        x.type(1);
        return x;
    }

    private static void twelveChoices() {
        Check.sentence("at most 12 are told");
        for (int words = 0; words <= 14; words++) {
            SoundLine x = manyChoices(words, 200);
            int told = Math.min(words + 1, 12);
            Check.due(words + " words and a guess", x.choices(0), told);
            int last = x.choice(0, told - 1, 0);
            Check.due("the last told of " + words + " words", last, words < 12 ? NONE : 11);
            Check.missing("the one behind it", () -> x.choice(0, told, 0));
        }
        SoundLine y = manyChoices(60, 99);
        Check.due("60 words and a cheap guess", y.choices(0), 12);
        Check.due("the guess first", y.choice(0, 0, 0), NONE);
        Check.due("the last told", y.choice(0, 11, 0), 10);
        Check.sentence("of like ones in the order of WORDS, ENDINGS");
        SoundLine z = manyChoices(13, 100);
        Check.due("12 like words, no room for the guess", z.choice(0, 11, 0), 11);
        z.spelling(1, 2, 0);
        z.word(Check.sounds(1), 1, 0, NONE);
        z.price(0, 1);
        z.empty();
        z.type(2);
        Check.due("the cheapest is the last word", z.choice(0, 0, 0), 13);
        Check.due("the guess is as cheap, behind it", z.choice(0, 1, 0), NONE);
        Check.due("then the others with a slip", z.choice(0, 2, 0), 0);
        Check.due("the last told", z.choice(0, 11, 0), 9);
        Check.due("at its cost", z.choice(0, 11, 2), 101);
    }

    private static void fortyLines() {
        Check.sentence("at most 40 are kept; with more none is TAKEN");
        SoundLine x = new SoundLine();
        for (int line = 1; line <= 40; line++) {
            x.type(1);
            x.type(1);
            Check.due("line " + line, x.take(), 2);
            Check.due("kept", x.about(3), line);
        }
        x.type(1);
        x.type(1);
        Check.due("line 41", x.take(), NONE);
        Check.due("pairs", x.pairs(8, 8), 40);
        Check.due("the letters stay", x.typed(NONE), 2);
        Check.due("one less", x.unlearn(), 39);
        Check.due("the letters stay once more", x.typed(NONE), 2);
        Check.due("line 41 now", x.take(), 2);
        Check.due("40 again", x.about(3), 40);
        x.type(1);
        Check.due("line 42", x.take(), NONE);
    }

    private static void unlearnt() {
        Check.sentence("UNLEARNT: the latest that was TAKEN and not UNLEARNT: all these 1 less");
        SoundLine x = Desks.kanaWith("kanakana");
        x.take();
        Check.type(x, "kanaz");
        x.take();
        Check.type(x, "z");
        x.take();
        Check.due("three are kept", x.about(3), 3);
        Check.due("a step from a word to a guess", x.pairs(0, 8), 1);
        Check.due("none from a guess", x.pairs(8, 0) + x.pairs(8, 8), 0);
        Check.due("the guess alone", x.unlearn(), 2);
        Check.due("no count of it", x.count(0), 3);
        Check.due("the second line", x.unlearn(), 1);
        Check.due("its word", x.count(0), 2);
        Check.due("its step", x.pairs(0, 8), 0);
        Check.due("the first line's step", x.pairs(0, 0), 1);
        Check.type(x, "kanaz");
        x.take();
        Check.due("kept again", x.about(3), 2);
        Check.due("the one taken last goes first", x.unlearn(), 1);
        Check.due("its step again", x.pairs(0, 8), 0);
        Check.due("the first line stays", x.count(0), 2);
        Check.due("the first line", x.unlearn(), 0);
        Check.due("nothing is left", x.count(0) + x.pairs(0, 0), 0);
        Check.sentence("21: NONE: there is none");
        Check.due("none", x.unlearn(), NONE);
        Check.due("no count below 0", x.count(0), 0);
    }

    private static void eightyActs() {
        Check.sentence("at most 80 are kept, the latest ones");
        for (int more = -1; more <= 2; more++) {
            SoundLine x = new SoundLine();
            int acts = 80 + more;
            for (int i = 0; i < acts; i++) {
                if (i < 10) {
                    x.type(1 + i);
                } else {
                    x.setBreak(1 + i % 9, i % 3);
                }
            }
            Check.due(acts + " acts", x.about(2), Math.min(acts, 80));
            int undone = 0;
            while (undone < 100 && x.back()) {
                undone++;
                Check.due("left", x.about(2), Math.min(acts, 80) - undone);
            }
            Check.due("undone of " + acts, undone, Math.min(acts, 80));
            Check.due("letters left of " + acts, x.typed(NONE), Math.max(0, more));
        }
    }

    private static void notAcrossTaken() {
        Check.sentence("BACK undoes the latest ACT since THE LINE was TAKEN last");
        SoundLine x = Desks.kanaWith("kana");
        x.take();
        Check.due("no acts", x.about(2), 0);
        Check.due("nothing to undo", x.back(), false);
        Check.due("the count stays", x.count(0), 1);
        x.type(1);
        Check.due("a letter is", x.back(), true);
        Check.due("and no more", x.back(), false);
        x.type(1);
        x.type(2);
        x.setBreak(1, 2);
        Check.due("a line that is not taken", x.take(), NONE);
        Check.due("its acts stay", x.about(2), 3);
        x.unlearn();
        Check.due("unlearning is none", x.about(2), 3);
        x.price(0, 1);
        x.step(0, 0, 1);
        x.word(1, 1, 0, NONE);
        Check.due("nor is what the book is told", x.about(2), 3);
        Check.due("the break goes", x.back(), true);
        Check.due("the price stays", x.price(0, 1), 1);
        Check.due("the word stays", x.about(0), 3);
        Check.due("guesses again", x.cost(), 140);
    }

    /** The sentences name no condition under which these calls are no acts. */
    private static void actsWithoutChange() {
        Check.sentence("17: THE HAND is free (an ACT): how many FIXED PARTS there were");
        SoundLine x = new SoundLine();
        Check.due("none", x.free(), 0);
        Check.due("an act", x.about(2), 1);
        Check.due("is undone", x.back(), true);
        Check.sentence("18: THE LINE is empty, THE HAND free (an ACT): how many LETTERS there were");
        Check.due("none", x.empty(), 0);
        Check.due("an act", x.about(2), 1);
        Check.due("is undone", x.back(), true);
        Check.sentence("16: how it was (an ACT)");
        Check.type(x, "ab");
        Check.due("free as it was", x.setBreak(1, 0), 0);
        Check.due("an act", x.about(2), 3);
        Check.due("is undone", x.back(), true);
        Check.sentence("15: is CHOSEN (an ACT)");
        x.choose(0, 0);
        x.choose(0, 0);
        Check.due("the same twice", x.about(2), 4);
        x.back();
        Check.due("fixed still", x.about(4), 1);
        x.back();
        Check.due("free again", x.about(4), 0);
        Check.sentence("18: how many LETTERS there were");
        Check.due("a full line", Desks.made(Desks::fullLine).empty(), 36);
        Check.sentence("17: how many FIXED PARTS there were");
        SoundLine y = new SoundLine();
        for (int i = 0; i < 36; i++) {
            y.type(1);
        }
        for (int i = 0; i < 36; i++) {
            y.choose(i, 0);
            Check.due("fixed parts", y.about(4), i + 1);
        }
        Check.due("36 guesses", y.free(), 36);
        Check.due("none", y.free(), 0);
    }

    /** The last of 512 calls is answered as any other. */
    private static void lastCalls() {
        Check.sentence("An object is used for at most 512 calls after it has been made");
        SoundLine x = Desks.made(Desks::kana);
        // The book took 7 calls, and each turn takes two: 8 and 9, and so on to 506 and 507.
        for (int call = 8; call <= 506; call += 2) {
            int letters = x.typed(NONE);
            Check.due("call " + (call + 1), letters < 36 ? x.type(1 + call % 26) : x.empty(), letters < 36 ? letters + 1 : 36);
        }
        x.empty();
        Check.due("call 509", x.type(26), 1);
        Check.due("call 510", x.about(2), 80);
        Check.due("call 511", x.sign(0), 20026);
        Check.due("call 512", x.cost(), 70);
    }

    public static void main(String[] args) {
        newObject();
        emptyLine();
        slips();
        leastSpelling();
        guesses();
        bitsOfCounts();
        bitsOfPairs();
        mostLearnt();
        belowZero();
        nothingCosts();
        stepsBetween();
        likeOnes();
        orderOfLikeOnes();
        toldAtOnce();
        noReading();
        lastOnes();
        twelveChoices();
        fortyLines();
        unlearnt();
        eightyActs();
        notAcrossTaken();
        actsWithoutChange();
        lastCalls();
        Check.end();
    }
}
