import java.util.NoSuchElementException;

/** Counts the answers that are not as due, and says which. */
final class Check {
    interface Call {
        long answer();
    }

    private static int wrong = 0;
    private static int looked = 0;
    private static int sentences = 0;
    private static String sentence = "";

    private Check() {
    }

    /** What follows holds the class against these words of the document; they are told with what is wrong. */
    static void sentence(String words) {
        sentences++;
        sentence = "\"" + words + "\": ";
    }

    private static void tell(String what) {
        wrong++;
        System.out.println(sentence + what);
    }

    static void due(String what, long got, long want) {
        looked++;
        if (got != want) {
            tell(what + " answered " + got + ", due is " + want);
        }
    }

    static void due(String what, boolean got, boolean want) {
        due(what, got ? 1 : 0, want ? 1 : 0);
    }

    static void same(String what, String got, String want) {
        looked++;
        if (!got.equals(want)) {
            tell(what + " is " + got + ", due is " + want);
        }
    }

    static void illegal(String what, Call call) {
        due(what + " throws (1 IllegalArgumentException, 2 NoSuchElementException, 0 nothing)", thrown(call), 1);
    }

    static void missing(String what, Call call) {
        due(what + " throws (1 IllegalArgumentException, 2 NoSuchElementException, 0 nothing)", thrown(call), 2);
    }

    private static long thrown(Call call) {
        try {
            call.answer();
            return 0;
        } catch (IllegalArgumentException e) {
            return 1;
        } catch (NoSuchElementException e) {
            return 2;
        }
    }

    /** A row as a long, the first member lowest. */
    static long row(int bits, long... members) {
        long row = 0;
        for (int i = 0; i < members.length; i++) {
            row |= members[i] << (i * bits);
        }
        return row;
    }

    static long letters(String text) {
        long row = 0;
        for (int i = 0; i < text.length(); i++) {
            row |= (long) (text.charAt(i) - 'a' + 1) << (5 * i);
        }
        return row;
    }

    /** A row of sounds from their numbers. */
    static long sounds(int... numbers) {
        long row = 0;
        for (int i = 0; i < numbers.length; i++) {
            row |= (long) (numbers[i] + 1) << (6 * i);
        }
        return row;
    }

    static void type(SoundLine x, String text) {
        for (int i = 0; i < text.length(); i++) {
            x.type(text.charAt(i) - 'a' + 1);
        }
    }

    /** The reading, as one text: begin-end:word/ending, G for a guess, * for a fixed part. */
    static String reading(SoundLine x) {
        StringBuilder told = new StringBuilder();
        int parts = x.parts();
        for (int i = 0; i < parts; i++) {
            told.append(i == 0 ? "" : " ").append(x.part(i, 0)).append('-').append(x.part(i, 1)).append(':');
            told.append(entry(x.part(i, 2), x.part(i, 3))).append(x.part(i, 6) == 1 ? "*" : "");
        }
        return told.toString();
    }

    private static String entry(int word, int ending) {
        String told = word == SoundLine.NONE ? "G" : Integer.toString(word);
        return ending == SoundLine.NONE ? told : told + "/" + ending;
    }

    static void reads(String what, SoundLine x, String want) {
        same(what + ": the reading", reading(x), want);
    }

    /** The choices for a part, as one text: word/ending=cost. */
    static String choices(SoundLine x, int i) {
        StringBuilder told = new StringBuilder();
        int choices = x.choices(i);
        for (int k = 0; k < choices; k++) {
            told.append(k == 0 ? "" : " ").append(entry(x.choice(i, k, 0), x.choice(i, k, 1)));
            told.append('=').append(x.choice(i, k, 2));
        }
        return told.toString();
    }

    static void offers(String what, SoundLine x, int i, String want) {
        same(what + ": the choices for part " + i, choices(x, i), want);
    }

    static void end() {
        String told = sentences == 0 ? "" : sentences + " sentences, ";
        System.out.println(told + looked + " answers looked at, " + wrong + " wrong");
        if (wrong != 0) {
            System.exit(1);
        }
    }
}
