import java.util.NoSuchElementException;

/**
 * Two desks that are made alike, of which one is asked what it must refuse: behind it both must show the same, whatever
 * is asked. Many questions change a desk, so each group of them has two new desks of its own.
 */
final class Twins {
    interface Use {
        long of(SoundLine x);
    }

    private interface Look {
        void at(SoundLine x, StringBuilder told);
    }

    private static final long ILLEGAL = Long.MIN_VALUE;
    private static final long MISSING = Long.MIN_VALUE + 1;
    private static final int NONE = SoundLine.NONE;
    private static final Look[] LOOKS = {
        Twins::lettersAndParts, Twins::signs, Twins::choices, Twins::countsAndPairs, Twins::prices, Twins::spellings,
        Twins::roomInTheBook, Twins::breaks, Twins::breakBehindTheLine, Twins::acts, Twins::lines};

    private Twins() {
    }

    static void illegal(String what, Desks.Recipe recipe, Use use) {
        refused(what, recipe, use, ILLEGAL);
    }

    static void missing(String what, Desks.Recipe recipe, Use use) {
        refused(what, recipe, use, MISSING);
    }

    static void none(String what, Desks.Recipe recipe, Use use) {
        refused(what, recipe, use, NONE);
    }

    static void nothingToUndo(String what, Desks.Recipe recipe) {
        refused(what, recipe, x -> x.back() ? 1 : 0, 0);
    }

    private static void refused(String what, Desks.Recipe recipe, Use use, long due) {
        for (int i = 0; i < LOOKS.length; i++) {
            SoundLine plain = Desks.made(recipe);
            SoundLine asked = Desks.made(recipe);
            Check.due(what + " (" + ILLEGAL + " IllegalArgumentException, " + MISSING + " NoSuchElementException)",
                    outcome(asked, use), due);
            StringBuilder before = new StringBuilder();
            StringBuilder behind = new StringBuilder();
            LOOKS[i].at(plain, before);
            LOOKS[i].at(asked, behind);
            Check.same("look " + i + " behind " + what, behind.toString(), before.toString());
        }
    }

    private static long outcome(SoundLine x, Use use) {
        try {
            return use.of(x);
        } catch (IllegalArgumentException e) {
            return ILLEGAL;
        } catch (NoSuchElementException e) {
            return MISSING;
        }
    }

    private static void tell(StringBuilder told, long answer) {
        told.append(answer).append(' ');
    }

    private static void lettersAndParts(SoundLine x, StringBuilder told) {
        int letters = x.typed(NONE);
        for (int i = 0; i < letters; i++) {
            tell(told, x.typed(i));
        }
        int parts = x.parts();
        for (int i = 0; i < parts; i++) {
            for (int what = 0; what < 7; what++) {
                tell(told, x.part(i, what));
            }
        }
    }

    private static void signs(SoundLine x, StringBuilder told) {
        tell(told, x.cost());
        int signs = x.sign(NONE);
        for (int k = 0; k < signs; k++) {
            tell(told, x.sign(k));
        }
        for (int what = 0; what < 5; what++) {
            tell(told, x.about(what));
        }
    }

    /** Of the first parts alone, for each may take 37 of an object's 512 calls. */
    private static void choices(SoundLine x, StringBuilder told) {
        int parts = Math.min(x.parts(), 4);
        for (int i = 0; i < parts; i++) {
            int choices = x.choices(i);
            for (int k = 0; k < choices; k++) {
                for (int what = 0; what < 3; what++) {
                    tell(told, x.choice(i, k, what));
                }
            }
        }
    }

    private static void countsAndPairs(SoundLine x, StringBuilder told) {
        int words = x.about(0);
        for (int w = 0; w < words; w++) {
            tell(told, x.count(w));
        }
        for (int a = 0; a < 9; a++) {
            for (int b = 0; b < 9; b++) {
                tell(told, x.pairs(a, b));
            }
        }
    }

    private static void prices(SoundLine x, StringBuilder told) {
        for (int what = 0; what < 3; what++) {
            tell(told, x.price(what, 1));
        }
        for (int a = 0; a < 9; a++) {
            for (int b = 0; b < 9; b++) {
                tell(told, x.step(a, b, 1));
            }
        }
    }

    private static void spellings(SoundLine x, StringBuilder told) {
        for (int sound = 0; sound < 50; sound++) {
            int many = 0;
            for (int i = 1; i <= 4 && many != NONE; i++) {
                many = x.spelling(sound, Check.row(5, 17, 24, 17, i), 0);
                tell(told, many);
            }
        }
    }

    private static void roomInTheBook(SoundLine x, StringBuilder told) {
        int word = 0;
        for (int i = 0; i < 61 && word != NONE; i++) {
            word = x.word(1, 1, 0, NONE);
            tell(told, word);
        }
        int ending = 0;
        for (int i = 0; i < 9 && ending != NONE; i++) {
            ending = x.ending(1, 1, 0, 0);
            tell(told, ending);
        }
    }

    private static void breaks(SoundLine x, StringBuilder told) {
        int letters = x.typed(NONE);
        for (int place = 1; place < letters; place++) {
            tell(told, x.setBreak(place, 0));
            tell(told, x.about(4));
        }
    }

    private static void breakBehindTheLine(SoundLine x, StringBuilder told) {
        int place = x.type(1) - 1;
        tell(told, place);
        if (place > 0) {
            tell(told, x.setBreak(place, 0));
        }
    }

    private static void acts(SoundLine x, StringBuilder told) {
        boolean undone = true;
        for (int i = 0; i < 81 && undone; i++) {
            undone = x.back();
            tell(told, undone ? 1 : 0);
            tell(told, x.typed(NONE));
            tell(told, x.cost());
            tell(told, x.about(4));
        }
    }

    private static void lines(SoundLine x, StringBuilder told) {
        tell(told, x.take());
        int kept = 0;
        for (int i = 0; i < 41 && kept != NONE; i++) {
            kept = x.unlearn();
            tell(told, kept);
        }
        countsAndPairs(x, told);
    }
}
