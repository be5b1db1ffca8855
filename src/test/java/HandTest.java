import java.util.ArrayList;
import java.util.List;

/** The hand at every place of a line: what is chosen, what a break lets go, and what stays. */
public final class HandTest {
    private static final int NONE = SoundLine.NONE;

    private HandTest() {
    }

    /** The breaks at all places, as one text; the desk is as it was behind it, but for the oldest act that is kept. */
    private static String breaks(SoundLine x) {
        StringBuilder told = new StringBuilder();
        int letters = x.typed(NONE);
        for (int place = 1; place < letters; place++) {
            told.append(x.setBreak(place, 0));
            x.back();
        }
        return told.toString();
    }

    private static void hand(String what, SoundLine x, String breaks, int fixed) {
        Check.same("breaks: " + what, breaks(x), breaks);
        Check.due("fixed parts: " + what, x.about(4), fixed);
    }

    private static void freeAtFirst() {
        Check.sentence("or it is free (0)");
        for (int letters = 0; letters <= 36; letters++) {
            SoundLine x = new SoundLine();
            for (int i = 0; i < letters; i++) {
                x.type(1);
            }
            hand(letters + " letters", x, "0".repeat(Math.max(0, letters - 1)), 0);
        }
    }

    private static void places() {
        Check.sentence("16: A BREAK at a place (ahead of its LETTER, 1 on): how it was");
        for (int letters : new int[] {2, 3, 36}) {
            SoundLine x = new SoundLine();
            for (int i = 0; i < letters; i++) {
                x.type(1);
            }
            for (int place : new int[] {1, letters - 1}) {
                x.setBreak(place, 0);
                Check.due("free", x.setBreak(place, 1), 0);
                Check.due("wanted", x.setBreak(place, 2), 1);
                Check.due("none", x.setBreak(place, 1), 2);
                Check.due("wanted", x.setBreak(place, 0), 1);
                Check.due("free", x.setBreak(place, 2), 0);
                Check.due("none", x.setBreak(place, 0), 2);
            }
        }
        Check.sentence("16: IllegalArgumentException: no such place between two LETTERS");
        for (int letters = 0; letters <= 36; letters++) {
            SoundLine x = new SoundLine();
            for (int i = 0; i < letters; i++) {
                x.type(1);
            }
            int end = letters;
            Check.illegal("the begin of " + letters, () -> x.setBreak(0, 1));
            Check.illegal("the end of " + letters, () -> x.setBreak(end, 1));
            if (letters >= 2) {
                Check.due("the last place of " + letters, x.setBreak(letters - 1, 1), 0);
            }
        }
    }

    private static void allowed() {
        Check.sentence("if it has BREAKS where they are wanted, none where none is, and all FIXED PARTS");
        SoundLine x = Desks.kanaWith("kanakana");
        x.setBreak(4, 1);
        Check.reads("wanted where one was", x, "0-4:0 4-8:0");
        x.setBreak(4, 2);
        Check.reads("none between two words: a word with two slips goes over it", x, "0-1:G 1-2:G 2-6:0 6-7:G 7-8:G");
        x.setBreak(4, 0);
        x.setBreak(3, 1);
        Check.reads("wanted within a word", x, "0-3:1 3-4:G 4-8:0");
        x.setBreak(1, 1);
        Check.reads("wanted within the stem", x, "0-1:G 1-2:G 2-3:G 3-4:G 4-8:0");
        x.setBreak(7, 2);
        Check.reads("none within a word", x, "0-1:G 1-2:G 2-3:G 3-4:G 4-8:0");
        x.setBreak(5, 1);
        Check.due("none, and no word can do without", x.cost(), -1000000);
        SoundLine y = Desks.kanaWith("kanakana");
        y.choose(1, 1);
        y.price(2, 200);
        y.price(1, 0);
        Check.reads("a fixed part at any cost", y, "0-1:G 1-2:G 2-3:G 3-4:G 4-8:1/0*");
    }

    private static void chosen() {
        Check.sentence("BREAKS at its ends are wanted then, at THE LINE's end as soon as a LETTER is typed behind it; none within");
        String[] breaks = {"22210000000", "00012221000", "00000001222"};
        for (int part = 0; part < 3; part++) {
            SoundLine x = Desks.kanaWith("kanakanakana");
            x.choose(part, 1);
            hand("part " + part, x, breaks[part], 1);
            x.type(26);
            hand("part " + part + " and a letter", x, breaks[part] + (part == 2 ? "1" : "0"), 1);
            x.back();
            hand("part " + part + ", the letter undone", x, breaks[part], 1);
            x.back();
            hand("part " + part + ", the choice undone", x, "00000000000", 0);
        }
        SoundLine whole = Desks.kanaWith("kana");
        whole.choose(0, 0);
        hand("the whole line", whole, "222", 1);
        SoundLine one = new SoundLine();
        one.type(1);
        one.choose(0, 0);
        hand("a line of one letter", one, "", 1);
        one.type(1);
        hand("and one behind it", one, "1", 1);
        one.type(1);
        hand("but none behind that", one, "10", 1);
    }

    private static void chosenGuesses() {
        Check.sentence("BREAKS at its ends are wanted then");
        String[] breaks = {"1000", "1100", "0110", "0011", "0001"};
        for (int part = 0; part < 5; part++) {
            SoundLine x = new SoundLine();
            Check.type(x, "abcde");
            x.choose(part, 0);
            hand("guess " + part, x, breaks[part], 1);
            Check.due("guess " + part + " is fixed", x.part(part, 6), 1);
        }
    }

    private static void chosenAtAFullLine() {
        Check.sentence("at THE LINE's end as soon as a LETTER is typed behind it");
        SoundLine x = Desks.made(Desks::fullLine);
        Check.due("no letter is typed", x.type(1), NONE);
        Check.due("the break ahead of it", x.setBreak(34, 1), 1);
        Check.due("none within", x.setBreak(35, 2), 2);
        Check.due("fixed", x.part(34, 6), 1);
        Check.illegal("no place behind it", () -> x.setBreak(36, 1));
    }

    private static void breaksAhead() {
        Check.sentence("CHOSEN: it is FIXED");
        SoundLine x = Desks.kanaWith("kanakana");
        x.setBreak(1, 2);
        x.setBreak(4, 1);
        x.setBreak(6, 2);
        x.choose(0, 1);
        hand("breaks that were set stay elsewhere", x, "2221020", 1);
        x.choose(0, 0);
        hand("FIXED PARTS of any of its LETTERS go", x, "2221020", 1);
        Check.reads("the other one is fixed", x, "0-4:0* 4-8:0");
        x.choose(1, 1);
        hand("a part beside it stays", x, "2221222", 2);
        Check.reads("both are fixed", x, "0-4:0* 4-8:1/0*");
        x.choose(0, 0);
        hand("chosen once more", x, "2221222", 2);
    }

    private static void choicesOfFixed() {
        Check.sentence("ALLOWED but for FIXED PARTS that cover the same LETTERS");
        SoundLine x = Desks.kanaWith("kanakana");
        x.step(0, 1, 10);
        x.step(1, 0, 20);
        x.choose(0, 1);
        x.choose(1, 0);
        Check.reads("two stems", x, "0-4:1/0* 4-8:1/0*");
        Check.offers("of the first, with the second one fixed", x, 0, "1/0=216 0=218");
        Check.offers("of the second, with the first one fixed", x, 1, "1/0=216 0=228");
        x.free();
        Check.offers("of the first, the second one free", x, 0, "0=200 1/0=216");
        Check.offers("of the second, the first one free", x, 1, "0=200 1/0=216");
    }

    /** Parts 0-4, 4-8 and 8-12 are fixed: which of them a break at a place lets go. */
    private static int stays(int part, int place, int how) {
        int from = part * 4;
        int to = from + 4;
        boolean over = from < place && place < to;
        boolean beside = place == from || place == to;
        return over && how != 2 || beside && how != 1 ? 0 : 1;
    }

    private static void breakAmongFixed() {
        Check.sentence("BREAK at a place: it is set; FIXED PARTS that go over it (1 wanted), that end or begin there (2),"
                + " or both (0), go; all else of THE HAND stays");
        for (int place = 1; place < 12; place++) {
            for (int how = 0; how < 3; how++) {
                SoundLine x = Desks.kanaWith("kanakanakana");
                for (int part = 0; part < 3; part++) {
                    x.choose(part, 1);
                }
                String before = "22212221222";
                String told = "place " + place + ", how " + how;
                Check.due("how it was: " + told, x.setBreak(place, how), before.charAt(place - 1) - '0');
                int fixed = stays(0, place, how) + stays(1, place, how) + stays(2, place, how);
                hand(told, x, before.substring(0, place - 1) + how + before.substring(place), fixed);
                whichAreFixed(told, x, place, how);
                x.back();
                hand(told + ", undone", x, before, 3);
            }
        }
    }

    /** A part that is fixed is found by the break that lets it go; the parts of a line without a reading are not told. */
    private static void whichAreFixed(String told, SoundLine x, int place, int how) {
        for (int part = 0; part < 3; part++) {
            int were = x.about(4);
            x.setBreak(part * 4 + 2, 1);
            Check.due("part " + part + " is fixed: " + told, were - x.about(4), stays(part, place, how));
            x.back();
        }
    }

    private static void freed() {
        Check.sentence("17: THE HAND is free");
        SoundLine x = Desks.made(Desks::busy);
        hand("ahead of it", x, "02012221122", 2);
        Check.due("fixed parts", x.free(), 2);
        hand("free", x, "00000000000", 0);
        Check.due("letters stay", x.typed(NONE), 12);
        x.type(1);
        hand("and a letter", x, "000000000000", 0);
        x.back();
        x.back();
        hand("undone", x, "02012221122", 2);
        Check.sentence("18: THE LINE is empty, THE HAND free");
        Check.due("letters", x.empty(), 12);
        hand("empty", x, "", 0);
        Check.type(x, "kanakanazkan");
        hand("the same letters again", x, "00000000000", 0);
        for (int i = 0; i < 12; i++) {
            x.back();
        }
        x.back();
        hand("undone", x, "02012221122", 2);
        Check.reads("as it was", x, "0-4:0 4-8:1/0* 8-9:G 9-12:1*");
        Check.sentence("THE LINE is empty then, THE HAND free");
        x.take();
        Check.type(x, "kanakanazkan");
        hand("the same letters behind a line taken", x, "00000000000", 0);
    }

    private static String told(SoundLine x) {
        StringBuilder told = new StringBuilder();
        int letters = x.typed(NONE);
        for (int i = 0; i < letters; i++) {
            told.append((char) ('a' + x.typed(i) - 1));
        }
        return told.append(' ').append(Check.reading(x)).append(' ').append(x.cost()).append(' ').append(x.about(4)).toString();
    }

    private static void backOfEach() {
        Check.sentence("THE LINE and THE HAND are as ahead of it");
        SoundLine x = Desks.made(Desks::kana);
        List<String> states = new ArrayList<>();
        for (int act = 0; act < 12; act++) {
            states.add(told(x));
            backedAct(x, act);
        }
        for (int act = 11; act >= 0; act--) {
            Check.due("act " + act, x.back(), true);
            Check.same("ahead of act " + act, told(x), states.get(act));
        }
        Check.due("nothing to undo", x.back(), false);
    }

    private static void backedAct(SoundLine x, int act) {
        switch (act) {
            case 4:
                x.choose(0, 1);
                break;
            case 6:
                x.setBreak(2, 1);
                break;
            case 7:
                x.setBreak(1, 2);
                break;
            case 8:
                x.free();
                break;
            case 9:
                x.choose(0, 0);
                break;
            case 10:
                x.empty();
                break;
            default:
                x.type(act % 4 == 0 ? 11 : act == 2 ? 14 : 1);
                break;
        }
    }

    public static void main(String[] args) {
        freeAtFirst();
        places();
        allowed();
        chosen();
        chosenGuesses();
        chosenAtAFullLine();
        breaksAhead();
        choicesOfFixed();
        breakAmongFixed();
        freed();
        backOfEach();
        Check.end();
    }
}
