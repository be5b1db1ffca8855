/** The rows and the numbers of the document: the last value that is let, the first that is not, and what comes of the one. */
public final class NumbersTest {
    private static final int NONE = SoundLine.NONE;
    private static final int LEAST = Integer.MIN_VALUE;
    private static final int MOST = Integer.MAX_VALUE;
    /** The bits of a member, its greatest value, the longest row: letters, a word's sounds, an ending's sounds, signs. */
    private static final int[][] ROWS = {{5, 26, 4}, {6, 50, 6}, {6, 50, 3}, {14, 16383, 4}};
    private static final String[] ROW_NAMES = {"letters", "a word's sounds", "an ending's sounds", "signs"};

    private NumbersTest() {
    }

    private static int tellRow(SoundLine x, int which, long row) {
        switch (which) {
            case 0:
                return x.spelling(0, row, 0);
            case 1:
                return x.word(row, 1, 0, NONE);
            case 2:
                return x.ending(row, 1, 0, 0);
            default:
                return x.word(1, row, 0, NONE);
        }
    }

    private static void row(int which, long row, boolean isLet) {
        String told = ROW_NAMES[which] + " as row " + row;
        SoundLine x = new SoundLine();
        if (isLet) {
            Check.due(told, tellRow(x, which, row), which == 0 ? 1 : 0);
        } else {
            Check.illegal(told, () -> tellRow(x, which, row));
        }
    }

    private static long members(int which, int many, int member) {
        long row = 0;
        for (int i = 0; i < many; i++) {
            row |= (long) member << (i * ROWS[which][0]);
        }
        return row;
    }

    private static void lengths() {
        Check.sentence("(1 to 4 LETTERS), (1 to 6 SOUNDS; of an ENDING 1 to 3), (1 to 4)");
        for (int which = 0; which < ROWS.length; which++) {
            for (int many = 0; many * ROWS[which][0] < 64; many++) {
                row(which, members(which, many, 1), many >= 1 && many <= ROWS[which][2]);
            }
        }
    }

    private static void greatestMembers() {
        Check.sentence("LETTERS 1 to 26; a SOUND's number and 1; a sign from 1 to 16383");
        for (int which = 0; which < ROWS.length; which++) {
            int bits = ROWS[which][0];
            for (int at = 0; at < ROWS[which][2]; at++) {
                long others = members(which, ROWS[which][2], 1) & ~(1L << (at * bits));
                for (int member = 1; member < 1 << bits; member++) {
                    row(which, others | (long) member << (at * bits), member <= ROWS[which][1]);
                }
            }
        }
    }

    private static void behindTheLastOne() {
        Check.sentence("0 behind the last one");
        for (int which = 0; which < ROWS.length; which++) {
            int bits = ROWS[which][0];
            for (int many = 0; many <= ROWS[which][2]; many++) {
                int free = many == ROWS[which][2] ? many * bits : (many + 1) * bits;
                for (int bit = free; bit < 64; bit++) {
                    row(which, members(which, many, 1) | 1L << bit, false);
                }
            }
        }
    }

    /** A word of one sound, which is spelt so, and slips that cost 7. */
    private static SoundLine oneWord(int sound, String letters, int price) {
        SoundLine x = new SoundLine();
        x.spelling(sound, Check.letters(letters), price);
        x.word(Check.sounds(sound), 1, 0, NONE);
        x.price(0, 7);
        x.price(1, 200);
        return x;
    }

    private static void firstOneLowest() {
        Check.sentence("ROWS are told as longs, the first one lowest: of LETTERS 5 bits each");
        for (String letters : new String[] {"a", "z", "az", "za", "abz", "zba", "abyz", "zyba"}) {
            SoundLine x = oneWord(0, letters, 0);
            Check.type(x, letters);
            Check.reads(letters, x, "0-" + letters.length() + ":0");
            Check.due("no slip in " + letters, x.cost(), 100);
        }
        Check.sentence("of SOUNDS 6 bits each, a SOUND's number and 1");
        for (int many = 1; many <= 6; many++) {
            soundsInOrder(many);
        }
        Check.sentence("of SIGNS 14 bits each");
        for (int many = 1; many <= 4; many++) {
            signsInOrder(many);
        }
    }

    /** Sounds 0, 10, 20, 30, 40 and 49 are spelt "a" to "f": a word of the first ones, with an ending of the last ones. */
    private static void soundsInOrder(int many) {
        int[] numbers = {0, 10, 20, 30, 40, 49};
        int[] first = new int[many];
        int[] last = new int[Math.min(many, 3)];
        SoundLine x = new SoundLine();
        x.price(0, 7);
        x.price(1, 200);
        for (int i = 0; i < 6; i++) {
            x.spelling(numbers[i], 1 + i, 0);
        }
        System.arraycopy(numbers, 0, first, 0, first.length);
        System.arraycopy(numbers, 6 - last.length, last, 0, last.length);
        x.word(Check.sounds(first), 1, 0, 3);
        x.ending(Check.sounds(last), 2, 3, 0);
        String letters = "abcdef".substring(0, many) + "abcdef".substring(6 - last.length);
        Check.type(x, letters);
        Check.reads(letters, x, "0-" + letters.length() + ":0/0");
        Check.due("no slip in " + letters, x.cost(), 100);
    }

    private static void signsInOrder(int many) {
        for (int at = 0; at < many; at++) {
            for (int sign : new int[] {1, 16383}) {
                long[] signs = new long[many];
                for (int i = 0; i < many; i++) {
                    signs[i] = i == at ? sign : 5 + i;
                }
                SoundLine x = new SoundLine();
                x.spelling(0, 1, 0);
                x.word(1, Check.row(14, signs), 0, 0);
                x.ending(1, 16384 - sign, 0, 0);
                Check.type(x, "aa");
                x.setBreak(1, 2);
                Check.due("signs", x.sign(NONE), many + 1);
                for (int i = 0; i < many; i++) {
                    Check.due("sign " + i + " of " + many, x.sign(i), signs[i]);
                }
                Check.due("the ending's sign", x.sign(many), 16384 - sign);
            }
        }
    }

    private static void sounds() {
        Check.sentence("SOUNDS 0 to 49");
        for (int sound = 0; sound < 50; sound++) {
            SoundLine x = oneWord(sound, "q", 0);
            Check.type(x, "q");
            Check.due("sound " + sound, x.cost(), 100);
        }
        for (int sound : new int[] {LEAST, -50, -1, 50, 51, 63, 64, MOST}) {
            Check.illegal("sound " + sound, () -> new SoundLine().spelling(sound, 1, 0));
        }
    }

    private static void spellings() {
        Check.sentence("each with at most 3 SPELLINGS");
        SoundLine x = new SoundLine();
        for (int sound = 0; sound < 50; sound++) {
            for (int many = 1; many <= 3; many++) {
                Check.due("spelling " + many + " of " + sound, x.spelling(sound, many, 0), many);
            }
            Check.due("spelling 4 of " + sound, x.spelling(sound, 4, 0), NONE);
        }
        x.word(1, 1, 0, NONE);
        x.price(0, 7);
        x.price(1, 200);
        for (int letter = 1; letter <= 4; letter++) {
            x.type(letter);
            Check.due("letter " + letter + " by one of the three", x.cost(), letter <= 3 ? 100 : 107);
            x.empty();
        }
    }

    private static void alikeSpellings() {
        Check.sentence("a row of LETTERS and a PRICE (0 to 40); no two alike");
        SoundLine x = oneWord(0, "ab", 5);
        Check.due("the same for less", x.spelling(0, Check.letters("ab"), 4), NONE);
        Check.due("its begin", x.spelling(0, Check.letters("a"), 5), 2);
        Check.due("the second one again", x.spelling(0, Check.letters("a"), 0), NONE);
        Check.due("the letters turned round", x.spelling(0, Check.letters("ba"), 5), 3);
        Check.due("the same of another sound", x.spelling(1, Check.letters("ab"), 5), 1);
        Check.type(x, "ab");
        Check.due("the price stays", x.cost(), 105);
    }

    private static void spellingPrices() {
        Check.sentence("a PRICE (0 to 40)");
        for (int price = 0; price <= 40; price++) {
            SoundLine x = oneWord(3, "ab", price);
            Check.type(x, "ab");
            Check.due("spelt for " + price, x.cost(), 100 + price);
        }
        for (int price : new int[] {LEAST, -1, 41, MOST}) {
            Check.illegal("price " + price, () -> new SoundLine().spelling(0, 1, price));
        }
    }

    private static void words() {
        Check.sentence("WORDS, numbered from 0 on, at most 60");
        SoundLine x = new SoundLine();
        x.spelling(0, 1, 0);
        x.price(1, 200);
        x.type(1);
        for (int w = 0; w < 60; w++) {
            Check.due("word " + w, x.word(1, 1 + w, 0, NONE), w);
            Check.due("words", x.about(0), w + 1);
            Check.due("COUNT (0 at first) of " + w, x.count(w), 0);
        }
        Check.due("word 60", x.word(1, 61, 0, NONE), NONE);
        Check.due("once more", x.word(1, 61, 0, NONE), NONE);
        Check.due("60 words", x.about(0), 60);
        Check.due("the first of them all", x.part(0, 2), 0);
    }

    /** The last word that a full book takes is read and counted as any other. */
    private static void lastWord() {
        Check.sentence("at most 60");
        SoundLine x = new SoundLine();
        x.spelling(0, 1, 0);
        x.spelling(1, 2, 0);
        for (int w = 0; w < 59; w++) {
            x.word(1, 1 + w, 0, NONE);
        }
        Check.due("word 59", x.word(2, 77, 7, 5), 59);
        for (int e = 0; e < 8; e++) {
            Check.due("ending " + e, x.ending(1 + e % 2, 90 + e, e == 7 ? 5 : 0, 0), e);
        }
        Check.type(x, "bb");
        x.setBreak(1, 2);
        x.price(0, 0);
        Check.reads("the last word with the last ending", x, "0-2:59/7");
        Check.due("its kind", x.part(0, 4), 7);
        Check.due("its sign", x.sign(0), 77);
        Check.due("the ending's sign", x.sign(1), 97);
        Check.offers("its choices", x, 0, "59/7=100");
        Check.due("taken", x.take(), 1);
        Check.due("its count", x.count(59), 1);
    }

    private static void kinds() {
        Check.sentence("a KIND (0 to 7)");
        for (int kind = 0; kind < 8; kind++) {
            SoundLine x = new SoundLine();
            x.spelling(0, 1, 0);
            Check.due("kind " + kind, x.word(1, 1, kind, NONE), 0);
            x.price(2, 0);
            Check.type(x, "aa");
            x.step(kind, kind, 9);
            Check.due("is told", x.part(1, 4), kind);
            Check.due("makes its step", x.cost(), 9);
        }
        for (int kind : new int[] {LEAST, -1, 8, 9, MOST}) {
            Check.illegal("kind " + kind, () -> new SoundLine().word(1, 1, kind, NONE));
        }
    }

    private static void classes() {
        Check.sentence("a CLASS (0 to 5, of stems; NONE of others)");
        for (int ofWord = -1; ofWord <= 5; ofWord++) {
            for (int ofEnding = 0; ofEnding <= 5; ofEnding++) {
                SoundLine x = new SoundLine();
                x.spelling(0, 1, 0);
                Check.due("a word of class " + ofWord, x.word(1, 1, 0, ofWord), 0);
                Check.due("an ending of class " + ofEnding, x.ending(1, 2, ofEnding, 0), 0);
                Check.type(x, "aa");
                x.setBreak(1, 2);
                Check.due("they go together", x.cost(), ofWord == ofEnding ? 100 : -1000000);
            }
        }
        for (int itsClass : new int[] {LEAST, -2, 6, MOST}) {
            Check.illegal("a word of class " + itsClass, () -> new SoundLine().word(1, 1, 0, itsClass));
        }
        for (int itsClass : new int[] {LEAST, -2, NONE, 6, MOST}) {
            Check.illegal("an ending of class " + itsClass, () -> new SoundLine().ending(1, 1, itsClass, 0));
        }
    }

    private static void endings() {
        Check.sentence("ENDINGS, numbered from 0 on, at most 8");
        SoundLine x = new SoundLine();
        for (int e = 0; e < 8; e++) {
            Check.due("ending " + e, x.ending(1, 1 + e, 0, 0), e);
            Check.due("endings", x.about(1), e + 1);
        }
        Check.due("ending 8", x.ending(1, 1, 0, 0), NONE);
        Check.due("once more", x.ending(1, 1, 0, 0), NONE);
        Check.due("8 endings", x.about(1), 8);
        Check.sentence("one sign");
        for (int sign : new int[] {LEAST, -1, 0, 16384, MOST}) {
            Check.illegal("sign " + sign, () -> new SoundLine().ending(1, sign, 0, 0));
        }
        Check.sentence("the CLASS that it goes to, a PRICE (0 to 60)");
        for (int price = 0; price <= 60; price++) {
            SoundLine y = new SoundLine();
            y.spelling(0, 1, 0);
            y.word(1, 1, 0, 4);
            y.ending(1, 2, 4, price);
            Check.type(y, "aa");
            y.setBreak(1, 2);
            Check.due("an ending for " + price, y.cost(), 100 + price);
        }
        for (int price : new int[] {LEAST, -1, 61, MOST}) {
            Check.illegal("an ending for " + price, () -> new SoundLine().ending(1, 1, 0, price));
        }
    }

    private static void prices() {
        Check.sentence("PRICES: SLIP (0, at first 30), GUESS (1; 70), BASE (2; 100)");
        int[] first = {30, 70, 100};
        for (int what = 0; what < 3; what++) {
            SoundLine x = new SoundLine();
            Check.due("price " + what + " at first", x.price(what, 200), first[what]);
            Check.due("then 200", x.price(what, 0), 200);
            Check.due("then 0", x.price(what, 0), 0);
            for (int other = 0; other < 3; other++) {
                Check.due("price " + other + " beside it", x.price(other, 1), other == what ? 0 : first[other]);
            }
        }
        for (int what : new int[] {LEAST, -1, 3, MOST}) {
            Check.illegal("price " + what, () -> new SoundLine().price(what, 0));
        }
        Check.sentence("v is not 0 to 200");
        for (int v : new int[] {0, 200}) {
            SoundLine x = oneWord(0, "ab", 0);
            x.price(0, v);
            Check.type(x, "aa");
            x.setBreak(1, 2);
            Check.due("a slip for " + v, x.cost(), 100 + v);
            x.price(2, v);
            Check.due("a word for " + v, x.cost(), 2 * v);
            x.free();
            x.setBreak(1, 1);
            x.price(1, v);
            Check.due("guesses for " + v, x.cost(), 2 * v);
        }
        for (int v : new int[] {LEAST, -1, 201, MOST}) {
            for (int what = 0; what < 3; what++) {
                int which = what;
                Check.illegal("price " + which + " of " + v, () -> new SoundLine().price(which, v));
            }
        }
    }

    private static void steps() {
        Check.sentence("The STEP from KIND a to KIND b (0 to 8; 8 are GUESSES) has a price (0 to 90, at first 0), and PAIRS, a count");
        SoundLine x = new SoundLine();
        for (int a = 0; a < 9; a++) {
            for (int b = 0; b < 9; b++) {
                Check.due("PAIRS at first", x.pairs(a, b), 0);
                Check.due("step " + a + " " + b + " at first", x.step(a, b, a * 9 + b), 0);
            }
        }
        for (int a = 0; a < 9; a++) {
            for (int b = 0; b < 9; b++) {
                Check.due("step " + a + " " + b, x.step(a, b, 90), a * 9 + b);
                Check.due("step " + a + " " + b + " of 90", x.step(a, b, 0), 90);
            }
        }
        for (int kind : new int[] {LEAST, -1, 9, MOST}) {
            Check.illegal("from " + kind, () -> new SoundLine().step(kind, 0, 0));
            Check.illegal("to " + kind, () -> new SoundLine().step(0, kind, 0));
        }
        for (int v : new int[] {LEAST, -1, 91, MOST}) {
            Check.illegal("a step of " + v, () -> new SoundLine().step(0, 0, v));
        }
        SoundLine y = new SoundLine();
        y.step(8, 8, 90);
        Check.type(y, "abc");
        Check.due("8 are GUESSES", y.cost(), 3 * 70 + 2 * 90);
    }

    private static void letters() {
        Check.sentence("up to 36 LETTERS, typed");
        SoundLine x = new SoundLine();
        for (int i = 0; i < 36; i++) {
            Check.due("letter " + i, x.type(1 + i % 26), i + 1);
        }
        Check.due("letter 36", x.type(1), NONE);
        Check.due("once more", x.type(26), NONE);
        Check.due("36 letters", x.typed(NONE), 36);
        for (int i = 0; i < 36; i++) {
            Check.due("letter " + i + " again", x.typed(i), 1 + i % 26);
        }
        x.back();
        Check.due("room again", x.type(5), 36);
        Check.due("the new one", x.typed(35), 5);
        for (int letter : new int[] {LEAST, -1, 0, 27, 31, 32, MOST}) {
            Check.illegal("letter " + letter, () -> new SoundLine().type(letter));
        }
    }

    /** The sentences with IllegalArgumentException name no condition on how full the book or the line is. */
    private static void wrongAndFull() {
        Check.sentence("IllegalArgumentException, where it is full as well");
        SoundLine x = Desks.made(Desks::fullBook);
        Check.illegal("a wrong row of a sound that has 3", () -> x.spelling(0, 0, 0));
        Check.illegal("a wrong price of a spelling that it has", () -> x.spelling(0, Check.letters("bb"), 41));
        Check.illegal("a word without sounds", () -> x.word(0, 1, 0, NONE));
        Check.illegal("a word without signs", () -> x.word(1, 0, 0, NONE));
        Check.illegal("a word of kind 8", () -> x.word(1, 1, 8, NONE));
        Check.illegal("a word of class 6", () -> x.word(1, 1, 0, 6));
        Check.illegal("an ending without sounds", () -> x.ending(0, 1, 0, 0));
        Check.illegal("an ending of sign 0", () -> x.ending(1, 0, 0, 0));
        Check.illegal("an ending of class NONE", () -> x.ending(1, 1, NONE, 0));
        Check.illegal("an ending for 61", () -> x.ending(1, 1, 0, 61));
        SoundLine y = Desks.made(Desks::fullLine);
        Check.illegal("letter 0", () -> y.type(0));
        Check.illegal("letter 27", () -> y.type(27));
    }

    public static void main(String[] args) {
        lengths();
        greatestMembers();
        behindTheLastOne();
        firstOneLowest();
        sounds();
        spellings();
        alikeSpellings();
        spellingPrices();
        words();
        lastWord();
        kinds();
        classes();
        endings();
        prices();
        steps();
        letters();
        wrongAndFull();
        Check.end();
    }
}
