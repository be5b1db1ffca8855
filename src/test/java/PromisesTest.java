/** Each promise in its turn: ordinary inputs, the edges that the document names, and wrong inputs. */
public final class PromisesTest {
    private static final int NONE = SoundLine.NONE;

    private PromisesTest() {
    }

    private static void promise1() {
        Check.due("NONE", SoundLine.NONE, -1);
        SoundLine x = new SoundLine();
        for (int what = 0; what < 5; what++) {
            Check.due("new: about(" + what + ")", x.about(what), 0);
        }
        Check.due("new: cost()", x.cost(), 0);
        Check.due("new: parts()", x.parts(), 0);
        Check.due("new: typed(NONE)", x.typed(NONE), 0);
        Check.due("new: sign(NONE)", x.sign(NONE), 0);
        Check.due("new: back()", x.back() ? 1 : 0, 0);
        Check.due("new: take()", x.take(), NONE);
        Check.due("new: unlearn()", x.unlearn(), NONE);
        Check.due("new: pairs(8, 8)", x.pairs(8, 8), 0);
        Check.due("new: step(3, 4, 0)", x.step(3, 4, 0), 0);
        Check.due("new: SLIP", x.price(0, 30), 30);
        Check.due("new: GUESS", x.price(1, 70), 70);
        Check.due("new: BASE", x.price(2, 100), 100);
    }

    private static void promise2() {
        SoundLine x = new SoundLine();
        Check.due("first spelling", x.spelling(49, Check.letters("zzzz"), 40), 1);
        Check.due("the same letters at another price", x.spelling(49, Check.letters("zzzz"), 0), NONE);
        Check.due("second spelling", x.spelling(49, Check.letters("zzz"), 0), 2);
        Check.due("third spelling", x.spelling(49, Check.letters("a"), 0), 3);
        Check.due("fourth spelling", x.spelling(49, Check.letters("b"), 0), NONE);
        Check.due("another sound, like letters", x.spelling(0, Check.letters("zzzz"), 0), 1);
        Check.illegal("sound -1", () -> x.spelling(-1, 1, 0));
        Check.illegal("sound 50", () -> x.spelling(50, 1, 0));
        Check.illegal("price -1", () -> x.spelling(0, 1, -1));
        Check.illegal("price 41", () -> x.spelling(0, 1, 41));
        Check.illegal("no letters", () -> x.spelling(0, 0, 0));
        Check.illegal("letter 27", () -> x.spelling(0, 27, 0));
        Check.illegal("letter 31 behind", () -> x.spelling(0, 1 | 31 << 5, 0));
        Check.illegal("a gap at first", () -> x.spelling(0, 1 << 5, 0));
        Check.illegal("a gap within", () -> x.spelling(0, 1 | 1 << 10, 0));
        Check.illegal("5 letters", () -> x.spelling(0, Check.letters("abcde"), 0));
        Check.illegal("far bits", () -> x.spelling(0, 1 | 1L << 40, 0));
        Check.illegal("the sign bit", () -> x.spelling(0, 1 | 1L << 63, 0));
        Check.illegal("-1", () -> x.spelling(0, -1, 0));
        Check.illegal("wrong price of a full sound", () -> x.spelling(49, 1, 41));
        Check.due("nothing came of it", x.spelling(0, 1, 0), 2);
    }

    private static void promise3() {
        SoundLine x = new SoundLine();
        Check.due("word 0", x.word(Check.sounds(0, 10, 20, 30, 40, 49), Check.row(14, 1, 16383, 2, 3), 7, 5), 0);
        Check.due("word 1, alike", x.word(Check.sounds(0), 1, 0, NONE), 1);
        Check.due("word 2, alike", x.word(Check.sounds(0), 1, 0, NONE), 2);
        Check.illegal("no sounds", () -> x.word(0, 1, 0, 0));
        Check.illegal("sound 50", () -> x.word(51, 1, 0, 0));
        Check.illegal("member 63", () -> x.word(63, 1, 0, 0));
        Check.illegal("a gap of sounds", () -> x.word(1L << 6, 1, 0, 0));
        Check.illegal("7 sounds", () -> x.word(Check.sounds(0, 0, 0, 0, 0, 0, 0), 1, 0, 0));
        Check.illegal("sounds -1", () -> x.word(-1, 1, 0, 0));
        Check.illegal("no signs", () -> x.word(1, 0, 0, 0));
        Check.illegal("a gap of signs", () -> x.word(1, 1L << 14, 0, 0));
        Check.illegal("5 signs", () -> x.word(1, Check.row(14, 1, 1, 1, 1, 1), 0, 0));
        Check.illegal("signs below 0", () -> x.word(1, Long.MIN_VALUE | 1, 0, 0));
        Check.illegal("kind -1", () -> x.word(1, 1, -1, 0));
        Check.illegal("kind 8", () -> x.word(1, 1, 8, 0));
        Check.illegal("class -2", () -> x.word(1, 1, 0, -2));
        Check.illegal("class 6", () -> x.word(1, 1, 0, 6));
        Check.due("nothing came of it", x.about(0), 3);
    }

    private static void promise4() {
        SoundLine x = new SoundLine();
        Check.due("ending 0", x.ending(Check.sounds(0, 1, 49), 16383, 5, 60), 0);
        Check.due("ending 1", x.ending(Check.sounds(0), 1, 0, 0), 1);
        Check.illegal("no sounds", () -> x.ending(0, 1, 0, 0));
        Check.illegal("4 sounds", () -> x.ending(Check.sounds(0, 0, 0, 0), 1, 0, 0));
        Check.illegal("sound 50", () -> x.ending(51, 1, 0, 0));
        Check.illegal("sign 0", () -> x.ending(1, 0, 0, 0));
        Check.illegal("sign 16384", () -> x.ending(1, 16384, 0, 0));
        Check.illegal("class NONE", () -> x.ending(1, 1, NONE, 0));
        Check.illegal("class 6", () -> x.ending(1, 1, 6, 0));
        Check.illegal("price -1", () -> x.ending(1, 1, 0, -1));
        Check.illegal("price 61", () -> x.ending(1, 1, 0, 61));
        Check.due("nothing came of it", x.about(1), 2);
    }

    private static void promise5() {
        SoundLine x = Desks.kanaWith("kama");
        Check.due("with a slip", x.cost(), 130);
        Check.due("SLIP is 200", x.price(0, 200), 30);
        Check.due("guesses are dearer still", x.cost(), 280);
        Check.due("SLIP is 0", x.price(0, 0), 200);
        Check.due("a slip for nothing", x.cost(), 100);
        Check.due("BASE is 7", x.price(2, 7), 100);
        Check.due("a word for 7", x.cost(), 7);
        Check.due("GUESS is 1", x.price(1, 1), 70);
        Check.due("guesses for 1 each", x.cost(), 4);
        Check.reads("guesses", x, "0-1:G 1-2:G 2-3:G 3-4:G");
        Check.illegal("price -1", () -> x.price(-1, 0));
        Check.illegal("price 3", () -> x.price(3, 0));
        Check.illegal("v -1", () -> x.price(0, -1));
        Check.illegal("v 201", () -> x.price(0, 201));
        Check.due("nothing came of it", x.price(0, 1), 0);
    }

    private static void promise6() {
        SoundLine x = Desks.kanaWith("kanakana");
        Check.due("no steps' prices", x.cost(), 200);
        Check.due("0 to 0 is 90", x.step(0, 0, 90), 0);
        Check.due("another way is cheaper", x.cost(), 208);
        Check.reads("one stem with its ending", x, "0-4:0 4-8:1/0");
        Check.due("0 to 1 is 3", x.step(0, 1, 3), 0);
        Check.reads("the other order", x, "0-4:1/0 4-8:0");
        Check.due("1 to 0 is 2", x.step(1, 0, 2), 0);
        Check.due("a step is paid once", x.cost(), 210);
        Check.due("the price that it had", x.step(0, 0, 1), 90);
        Check.due("and the new one", x.cost(), 201);
        Check.due("of guesses", x.step(8, 8, 5), 0);
        Check.illegal("kind -1", () -> x.step(-1, 0, 0));
        Check.illegal("kind 9", () -> x.step(9, 0, 0));
        Check.illegal("to kind -1", () -> x.step(0, -1, 0));
        Check.illegal("to kind 9", () -> x.step(0, 9, 0));
        Check.illegal("v -1", () -> x.step(0, 0, -1));
        Check.illegal("v 91", () -> x.step(0, 0, 91));
        Check.due("nothing came of it", x.step(0, 0, 0), 1);
    }

    private static void promises7And8() {
        SoundLine x = new SoundLine();
        Check.due("type(26)", x.type(26), 1);
        Check.due("type(1)", x.type(1), 2);
        Check.illegal("type(0)", () -> x.type(0));
        Check.illegal("type(27)", () -> x.type(27));
        Check.illegal("type(-1)", () -> x.type(-1));
        Check.due("how many", x.typed(NONE), 2);
        Check.due("typed(0)", x.typed(0), 26);
        Check.due("typed(1)", x.typed(1), 1);
        Check.missing("typed(2)", () -> x.typed(2));
        Check.missing("typed(-2)", () -> x.typed(-2));
        Check.due("acts", x.about(2), 2);
        for (int i = 3; i <= 36; i++) {
            Check.due("letter " + i, x.type(3), i);
        }
        Check.due("letter 37", x.type(3), NONE);
        Check.due("no act", x.about(2), 36);
        Check.illegal("no letter, the line full", () -> x.type(0));
        Check.due("guesses alone", x.cost(), 36 * 70);
        Check.missing("typed(36)", () -> x.typed(36));
    }

    private static void promises9And10() {
        SoundLine x = Desks.kanaWith("kana");
        Check.due("cost", x.cost(), 100);
        Check.due("parts", x.parts(), 1);
        x.setBreak(1, 2);
        x.setBreak(2, 2);
        x.setBreak(3, 2);
        Check.due("a whole word", x.cost(), 100);
        x.type(26);
        x.setBreak(4, 2);
        Check.due("no parting is allowed", x.cost(), -1000000);
        Check.due("it has no parts", x.parts(), 0);
        Check.due("and no signs", x.sign(NONE), 0);
        Check.missing("and no choices", () -> x.choices(0));
        SoundLine y = Desks.made(Desks::kana);
        y.price(2, 0);
        Check.type(y, "kana");
        y.take();
        Check.type(y, "kana");
        Check.due("a cost below 0", y.cost(), -8);
        y.type(26);
        y.setBreak(4, 2);
        Check.due("a cost below 0 ahead of no parting", y.cost(), -1000000);
        Check.due("nor parts", y.parts(), 0);
    }

    /** At most one letter of each spelling is another one, whatever it costs. */
    private static void spellings() {
        SoundLine x = new SoundLine();
        x.price(0, 0);
        x.spelling(0, Check.letters("abc"), 0);
        x.spelling(0, Check.letters("x"), 9);
        x.word(Check.sounds(0), 1, 0, NONE);
        x.word(Check.sounds(0, 0), 1, 0, NONE);
        Check.type(x, "abd");
        Check.reads("one slip", x, "0-3:0");
        x.empty();
        Check.type(x, "add");
        Check.reads("two slips are too many", x, "0-2:1 2-3:G");
        x.empty();
        Check.type(x, "zbcabz");
        Check.reads("a slip in each of two spellings", x, "0-6:1");
        x.price(0, 11);
        Check.due("both are paid", x.cost(), 122);
        x.empty();
        Check.type(x, "q");
        x.price(1, 200);
        Check.due("the one letter of a spelling is another one", x.cost(), 120);
        x.empty();
        Check.type(x, "abcq");
        Check.due("two spellings of one word", x.cost(), 120);
    }

    /** Of partings that cost the same the first one is the reading. */
    private static void likeCosts() {
        SoundLine x = new SoundLine();
        x.spelling(0, Check.letters("a"), 0);
        x.spelling(1, Check.letters("aa"), 0);
        x.price(0, 200);
        x.word(Check.sounds(1), 1, 0, 0);
        x.word(Check.sounds(0), 2, 0, 0);
        x.price(1, 200);
        Check.type(x, "aaa");
        Check.reads("the first word first", x, "0-2:0 2-3:1");
        x.word(Check.sounds(0, 0, 0), 3, 0, NONE);
        x.price(2, 0);
        Check.reads("the first word, not the fewest parts", x, "0-2:0 2-3:1");
        x.price(1, 0);
        Check.reads("guesses are behind all words", x, "0-2:0 2-3:1");
        x.ending(Check.sounds(0), 4, 0, 0);
        Check.reads("no ending ahead of one", x, "0-2:0 2-3:1");
        x.setBreak(2, 2);
        Check.reads("an ending is of the first word", x, "0-3:0/0");
        SoundLine y = new SoundLine();
        y.price(2, 0);
        y.spelling(0, Check.letters("a"), 0);
        y.spelling(0, Check.letters("aa"), 0);
        y.word(Check.sounds(0), 1, 0, NONE);
        Check.type(y, "aaa");
        Check.reads("the lesser end", y, "0-1:0 1-2:0 2-3:0");
    }

    private static void promise11() {
        SoundLine x = Desks.kanaWith("kanaz");
        Check.due("begin", x.part(0, 0), 0);
        Check.due("end", x.part(0, 1), 4);
        Check.due("word", x.part(0, 2), 0);
        Check.due("ending", x.part(0, 3), NONE);
        Check.due("kind", x.part(0, 4), 0);
        Check.due("cost", x.part(0, 5), 100);
        Check.due("fixed", x.part(0, 6), 0);
        Check.due("begin of the guess", x.part(1, 0), 4);
        Check.due("end of the guess", x.part(1, 1), 5);
        Check.due("word of the guess", x.part(1, 2), NONE);
        Check.due("ending of the guess", x.part(1, 3), NONE);
        Check.due("kind of the guess", x.part(1, 4), 8);
        Check.due("cost of the guess", x.part(1, 5), 70);
        x.step(0, 8, 5);
        Check.due("no step in a part's cost", x.part(1, 5), 70);
        x.choose(0, 1);
        Check.due("word of the stem", x.part(0, 2), 1);
        Check.due("ending of the stem", x.part(0, 3), 0);
        Check.due("an ending changes no kind", x.part(0, 4), 1);
        Check.due("its cost", x.part(0, 5), 108);
        Check.due("it is fixed", x.part(0, 6), 1);
        Check.due("the other is not", x.part(1, 6), 0);
        Check.missing("part -1", () -> x.part(-1, 0));
        Check.missing("part 2", () -> x.part(2, 0));
        Check.missing("what -1", () -> x.part(0, -1));
        Check.missing("what 7", () -> x.part(0, 7));
    }

    private static void promise12() {
        SoundLine x = Desks.made(Desks::kana);
        x.spelling(9, Check.letters("ppp"), 0);
        x.word(Check.sounds(9), Check.row(14, 16383, 2, 3, 4), 0, 2);
        Check.type(x, "pppazkana");
        Check.reads("three parts", x, "0-4:2/0 4-5:G 5-9:0");
        int[] due = {16383, 2, 3, 4, 9, 20026, 5};
        Check.due("how many", x.sign(NONE), due.length);
        for (int k = 0; k < due.length; k++) {
            Check.due("sign(" + k + ")", x.sign(k), due[k]);
        }
        Check.missing("sign behind all", () -> x.sign(due.length));
        Check.missing("sign(-2)", () -> x.sign(-2));
        Check.missing("sign(least)", () -> x.sign(Integer.MIN_VALUE));
        Check.missing("sign(most)", () -> x.sign(Integer.MAX_VALUE));
    }

    private static void promises13And14() {
        SoundLine x = Desks.kanaWith("kanaz");
        Check.offers("the word", x, 0, "0=170 1/0=178");
        Check.offers("the guess", x, 1, "G=170");
        x.step(1, 8, 50);
        Check.offers("with the step behind it", x, 0, "0=170 1/0=228");
        x.choose(0, 1);
        Check.offers("of a fixed part the others too", x, 0, "0=170 1/0=228");
        Check.offers("other parts with it", x, 1, "G=228");
        Check.missing("choices(-1)", () -> x.choices(-1));
        Check.missing("choices(2)", () -> x.choices(2));
        Check.missing("choice of part 2", () -> x.choice(2, 0, 0));
        Check.missing("choice of part -1", () -> x.choice(-1, 0, 0));
        Check.missing("choice -1", () -> x.choice(0, -1, 0));
        Check.missing("choice 2", () -> x.choice(0, 2, 0));
        Check.missing("what -1", () -> x.choice(0, 0, -1));
        Check.missing("what 3", () -> x.choice(0, 0, 3));
        SoundLine y = new SoundLine();
        y.spelling(0, Check.letters("a"), 0);
        y.price(2, 70);
        y.word(Check.sounds(0), 1, 0, NONE);
        y.word(Check.sounds(0), 2, 0, NONE);
        y.type(1);
        Check.offers("like costs: words in order, the guess behind", y, 0, "0=70 1=70 G=70");
        y.price(2, 71);
        Check.offers("by cost", y, 0, "G=70 0=71 1=71");
        Check.due("choices change nothing", y.about(2), 1);
    }

    private static void promise15() {
        SoundLine x = Desks.kanaWith("kanakana");
        x.choose(0, 1);
        Check.reads("chosen", x, "0-4:1/0* 4-8:0");
        Check.due("fixed parts", x.about(4), 1);
        Check.due("acts", x.about(2), 9);
        Check.due("none within", x.setBreak(2, 2), 2);
        Check.due("wanted at its end", x.setBreak(4, 1), 1);
        Check.reads("it stays", x, "0-4:1/0* 4-8:0");
        x.choose(0, 0);
        Check.reads("another one for it", x, "0-4:0* 4-8:0");
        Check.due("the first one went", x.about(4), 1);
        x.choose(1, 1);
        Check.reads("both", x, "0-4:0* 4-8:1/0*");
        x.type(1);
        Check.due("a break at the line's end as soon as a letter is typed", x.setBreak(8, 1), 1);
        Check.reads("both and a guess", x, "0-4:0* 4-8:1/0* 8-9:G");
        x.price(1, 0);
        Check.reads("chosen ones stay at any price", x, "0-4:0* 4-8:1/0* 8-9:G");
        int acts = x.about(2);
        Check.missing("part 3", () -> {
            x.choose(3, 0);
            return 0;
        });
        Check.missing("part -1", () -> {
            x.choose(-1, 0);
            return 0;
        });
        Check.missing("choice 2", () -> {
            x.choose(0, 2);
            return 0;
        });
        Check.missing("choice -1", () -> {
            x.choose(0, -1);
            return 0;
        });
        Check.due("no act", x.about(2), acts);
    }

    /** A part chosen at the line's end wants its break there only if it is still fixed when the next letter comes. */
    private static void breakBehindTheLastPart() {
        for (int place = 4; place < 8; place++) {
            for (int how = 0; how < 3; how++) {
                SoundLine x = Desks.kanaWith("kanakana");
                x.choose(1, 1);
                x.setBreak(place, how);
                boolean goes = place == 4 ? how != 1 : how != 2;
                String told = "place " + place + ", how " + how;
                Check.due("still fixed: " + told, x.about(4), goes ? 0 : 1);
                x.type(1);
                Check.due("the new place: " + told, x.setBreak(8, 0), goes ? 0 : 1);
            }
        }
        SoundLine y = Desks.kanaWith("kana");
        y.choose(0, 1);
        y.setBreak(2, 0);
        y.setBreak(2, 0);
        y.back();
        y.back();
        y.type(1);
        Check.reads("the part came back, and its break with the letter", y, "0-4:1/0* 4-5:G");
        Check.due("wanted", y.setBreak(4, 1), 1);
        y.back();
        y.back();
        y.setBreak(3, 1);
        y.choose(1, 0);
        y.type(1);
        y.type(1);
        Check.due("the part that is fixed there now", y.setBreak(4, 2), 1);
        Check.due("none behind a letter that is not fixed", y.setBreak(5, 0), 0);
        y.back();
        y.back();
        y.free();
        y.back();
        Check.due("back gives the break as well", y.setBreak(4, 1), 1);
    }

    /** No break is left of a part that went, and so the line is read over the place. */
    private static void partGoneAheadOfALetter() {
        SoundLine x = Desks.made(Desks::kana);
        Check.type(x, "ka");
        x.choose(1, 0);
        x.setBreak(1, 0);
        Check.type(x, "na");
        Check.reads("the line may be read over the place", x, "0-4:0");
        Check.due("one part is taken", x.take(), 1);
    }

    private static void promise16() {
        SoundLine x = Desks.kanaWith("kanakana");
        Check.due("free at first", x.setBreak(3, 1), 0);
        Check.reads("a break", x, "0-3:1 3-4:G 4-8:0");
        Check.due("wanted", x.setBreak(3, 2), 1);
        Check.due("none", x.setBreak(3, 0), 2);
        Check.due("free", x.setBreak(3, 0), 0);
        Check.due("each an act", x.about(2), 12);
        for (int how = 0; how < 3; how++) {
            SoundLine y = Desks.kanaWith("kanakanakana");
            y.choose(0, 0);
            y.choose(1, 0);
            y.choose(2, 0);
            y.setBreak(6, how);
            Check.due("over it: how " + how, y.about(4), how == 2 ? 3 : 2);
            SoundLine z = Desks.kanaWith("kanakanakana");
            z.choose(0, 0);
            z.choose(1, 0);
            z.choose(2, 0);
            z.setBreak(4, how);
            Check.due("at its ends: how " + how, z.about(4), how == 1 ? 3 : 1);
            Check.due("all else stays: within", z.setBreak(2, 2), 2);
            Check.due("all else stays: the other end", z.setBreak(8, 1), 1);
        }
        Check.illegal("place 0", () -> x.setBreak(0, 0));
        Check.illegal("place 8", () -> x.setBreak(8, 0));
        Check.illegal("place -1", () -> x.setBreak(-1, 0));
        Check.illegal("how -1", () -> x.setBreak(1, -1));
        Check.illegal("how 3", () -> x.setBreak(1, 3));
        Check.illegal("no place in one letter", () -> Desks.kanaWith("a").setBreak(1, 0));
        Check.due("no act", x.about(2), 12);
    }

    private static void promise17() {
        SoundLine x = Desks.kanaWith("kanakana");
        x.choose(0, 1);
        x.choose(1, 1);
        x.setBreak(6, 2);
        Check.due("free", x.free(), 2);
        Check.reads("as if none was chosen", x, "0-4:0 4-8:0");
        Check.due("no fixed ones", x.about(4), 0);
        Check.due("no breaks", x.setBreak(4, 0), 0);
        Check.due("nor within", x.setBreak(6, 0), 0);
        Check.due("letters stay", x.typed(NONE), 8);
        x.type(1);
        Check.due("nor at the line's end", x.setBreak(8, 0), 0);
        int acts = x.about(2);
        Check.due("free once more", x.free(), 0);
        Check.due("an act too", x.about(2), acts + 1);
    }

    private static void promise18() {
        SoundLine x = Desks.kanaWith("kana");
        x.choose(0, 1);
        Check.due("empty", x.empty(), 4);
        Check.due("no letters", x.typed(NONE), 0);
        Check.due("no fixed ones", x.about(4), 0);
        Check.due("no cost", x.cost(), 0);
        Check.due("empty once more", x.empty(), 0);
        Check.due("acts too", x.about(2), 7);
        Check.type(x, "kanak");
        Check.due("no break left", x.setBreak(4, 0), 0);
        Check.reads("nothing fixed", x, "0-4:0 4-5:G");
    }

    private static void promise19() {
        SoundLine x = Desks.kanaWith("kana");
        x.choose(0, 1);
        x.setBreak(2, 1);
        x.free();
        x.empty();
        x.type(26);
        Check.due("of a letter", x.back() ? 1 : 0, 1);
        Check.due("none again", x.typed(NONE), 0);
        Check.due("of empty", x.back() ? 1 : 0, 1);
        Check.due("letters again", x.typed(NONE), 4);
        Check.due("the first one", x.typed(0), 11);
        Check.due("of free", x.back() ? 1 : 0, 1);
        Check.due("the break again, between none", x.cost(), -1000000);
        Check.due("of a break", x.back() ? 1 : 0, 1);
        Check.reads("the fixed one again", x, "0-4:1/0*");
        Check.due("of a choice", x.back() ? 1 : 0, 1);
        Check.reads("not chosen", x, "0-4:0");
        Check.due("breaks within as they were", x.setBreak(3, 0), 0);
        for (int i = 0; i < 5; i++) {
            Check.due("of all else", x.back() ? 1 : 0, 1);
        }
        Check.due("nothing to undo", x.back() ? 1 : 0, 0);
        Check.due("an empty line", x.typed(NONE), 0);
        Check.type(x, "kana");
        x.take();
        Check.due("not across a line taken", x.back() ? 1 : 0, 0);
        Check.type(x, "ka");
        x.unlearn();
        Check.due("unlearning is no act", x.back() ? 1 : 0, 1);
        Check.due("a letter less", x.typed(NONE), 1);
    }

    private static void promises20To23() {
        SoundLine x = Desks.kanaWith("kanakanaz");
        x.choose(1, 1);
        Check.reads("the line", x, "0-4:0 4-8:1/0* 8-9:G");
        Check.due("taken", x.take(), 3);
        Check.due("count(0)", x.count(0), 1);
        Check.due("count(1)", x.count(1), 1);
        Check.due("pairs(0, 1)", x.pairs(0, 1), 1);
        Check.due("pairs(1, 8)", x.pairs(1, 8), 1);
        Check.due("pairs(1, 0)", x.pairs(1, 0), 0);
        Check.due("the line is empty", x.typed(NONE), 0);
        Check.due("the hand is free", x.about(4), 0);
        Check.due("kept", x.about(3), 1);
        Check.due("no acts", x.about(2), 0);
        Check.due("nothing to take", x.take(), NONE);
        Check.type(x, "kanakana");
        Check.due("what was learnt is cheaper", x.cost(), 92 + 92);
        Check.reads("like words, for the pair is worth less than the ending", x, "0-4:0 4-8:0");
        Check.due("taken", x.take(), 2);
        Check.due("count(0)", x.count(0), 3);
        Check.due("count(1)", x.count(1), 1);
        Check.type(x, "kana");
        Check.due("3 has two digits", x.cost(), 84);
        Check.due("unlearnt", x.unlearn(), 1);
        Check.due("the latest one: count(0)", x.count(0), 1);
        Check.due("pairs(0, 0)", x.pairs(0, 0), 0);
        Check.due("pairs(0, 1)", x.pairs(0, 1), 1);
        Check.due("the line stays", x.typed(NONE), 4);
        Check.due("at its new cost", x.cost(), 92);
        Check.due("unlearnt", x.unlearn(), 0);
        Check.due("count(0)", x.count(0), 0);
        Check.due("count(1)", x.count(1), 0);
        Check.due("pairs(0, 1)", x.pairs(0, 1), 0);
        Check.due("pairs(1, 8)", x.pairs(1, 8), 0);
        Check.due("none to unlearn", x.unlearn(), NONE);
        x.type(26);
        x.setBreak(4, 2);
        Check.due("no reading to take", x.take(), NONE);
        Check.due("nothing changes", x.typed(NONE), 5);
        Check.missing("count(-1)", () -> x.count(-1));
        Check.missing("count(2)", () -> x.count(2));
        Check.missing("pairs(-1, 0)", () -> x.pairs(-1, 0));
        Check.missing("pairs(0, -1)", () -> x.pairs(0, -1));
        Check.missing("pairs(9, 0)", () -> x.pairs(9, 0));
        Check.missing("pairs(0, 9)", () -> x.pairs(0, 9));
        Check.due("pairs(8, 8)", x.pairs(8, 8), 0);
    }

    /** A pair that was learnt makes its step cheaper, and unlearnt dearer again. */
    private static void pairsAreWorth() {
        SoundLine x = Desks.kanaWith("kanaz");
        x.take();
        Check.type(x, "kanaz");
        Check.due("8 for the count, 2 for the pair", x.cost(), 160);
        x.step(0, 8, 10);
        Check.due("off the step's price", x.cost(), 170);
        x.unlearn();
        Check.due("unlearnt", x.cost(), 178);
        Check.reads("another kind's step is cheaper then", x, "0-4:1/0 4-5:G");
    }

    private static void promise24() {
        SoundLine x = Desks.kanaWith("kanakana");
        x.take();
        Check.type(x, "kana");
        x.choose(0, 0);
        int[] due = {2, 1, 5, 1, 1};
        for (int what = 0; what < due.length; what++) {
            Check.due("about(" + what + ")", x.about(what), due[what]);
        }
        Check.missing("about(-1)", () -> x.about(-1));
        Check.missing("about(5)", () -> x.about(5));
    }

    public static void main(String[] args) {
        promise1();
        promise2();
        promise3();
        promise4();
        promise5();
        promise6();
        promises7And8();
        promises9And10();
        spellings();
        likeCosts();
        promise11();
        promise12();
        promises13And14();
        promise15();
        breakBehindTheLastPart();
        partGoneAheadOfALetter();
        promise16();
        promise17();
        promise18();
        promise19();
        promises20To23();
        pairsAreWorth();
        promise24();
        Check.end();
    }
}
