import java.util.List;
import java.util.NoSuchElementException;

/** Runs of calls from fixed seeds, each answer held against the Oracle's: short lines, and long ones with full books. */
public final class OracleTest {
    private interface Call {
        int answer();
    }

    private static final int SHORT_RUNS = 3000;
    private static final int LONG_RUNS = 160;
    /** An object's life: nothing is promised about later calls. */
    private static final int CALLS = 512;
    private static final long THROWS_ARGUMENT = Long.MIN_VALUE;
    private static final long THROWS_ELEMENT = Long.MIN_VALUE + 1;
    private static int wrong = 0;
    private static long compared = 0;

    private final String run;
    private final boolean isLong;
    private final SoundLine x = new SoundLine();
    private final Oracle o;
    private final StringBuilder told = new StringBuilder();
    private final int letters;
    private final int longest;
    private final int sounds;
    /** One look goes with so many acts, so that some runs look at all and others do much. */
    private final int actsALook;
    private long seed;
    private int calls;

    private OracleTest(int number, boolean isLong) {
        this.isLong = isLong;
        run = (isLong ? "long run " : "short run ") + number;
        o = isLong ? new LongOracle() : new Oracle();
        seed = number * 7919L + 17;
        letters = 1 + below(isLong ? 9 : 4);
        sounds = isLong ? 1 + below(50) : 1 + below(7);
        longest = isLong ? 36 : 2 + below(7);
        actsALook = 1 + below(4) * below(12);
    }

    private int below(int n) {
        seed = seed * 6364136223846793005L + 1442695040888963407L;
        return (int) ((seed >>> 33) % n);
    }

    private static long answer(Call call) {
        try {
            return call.answer();
        } catch (IllegalArgumentException e) {
            return THROWS_ARGUMENT;
        } catch (NoSuchElementException e) {
            return THROWS_ELEMENT;
        }
    }

    private static String name(long answer) {
        return answer == THROWS_ARGUMENT ? "IllegalArgumentException"
                : answer == THROWS_ELEMENT ? "NoSuchElementException" : Long.toString(answer);
    }

    private boolean goesOn() {
        return calls < CALLS && wrong == 0;
    }

    private void same(String call, Call got, Call due) {
        if (!goesOn()) {
            return;
        }
        calls++;
        long g = answer(got);
        long d = answer(due);
        compared++;
        told.append(call).append(" -> ").append(name(d)).append('\n');
        if (g != d) {
            wrong++;
            System.out.println(told);
            System.out.println(run + ": " + call + " answered " + name(g) + ", due is " + name(d));
        }
    }

    private long row(int most, int bits, int greatest) {
        long row = 0;
        int many = 1 + below(most);
        for (int i = 0; i < many; i++) {
            row |= (long) (1 + below(greatest)) << (i * bits);
        }
        return below(60) == 0 ? row << bits : row;
    }

    private void spelling() {
        int s = below(60) == 0 ? below(60) - 5 : below(sounds);
        long r = row(below(12) == 0 ? 5 : 3, 5, letters + (below(60) == 0 ? 30 : 0));
        int p = below(50) == 0 ? below(50) - 4 : below(3) * 5;
        same("spelling(" + s + ", " + r + ", " + p + ")", () -> x.spelling(s, r, p), () -> o.spelling(s, r, p));
    }

    private void word() {
        long s = row(below(40) == 0 ? 7 : isLong ? 6 : 3, 6, sounds);
        long g = row(below(40) == 0 ? 5 : 3, 14, 16383);
        int k = below(40) == 0 ? below(12) - 2 : isLong ? below(8) : below(4) * below(3);
        int c = below(40) == 0 ? below(12) - 4 : below(4) - 1;
        same("word(" + s + ", " + g + ", " + k + ", " + c + ")", () -> x.word(s, g, k, c), () -> o.word(s, g, k, c));
    }

    private void ending() {
        long s = row(below(20) == 0 ? 4 : isLong ? 3 : 2, 6, sounds);
        int g = below(20) == 0 ? below(3) * 16383 - 1 : 1 + below(16383);
        int c = below(20) == 0 ? below(12) - 4 : below(3);
        int p = below(20) == 0 ? below(70) - 5 : below(4) * 5;
        same("ending(" + s + ", " + g + ", " + c + ", " + p + ")", () -> x.ending(s, g, c, p), () -> o.ending(s, g, c, p));
    }

    private void price() {
        int w = below(10) == 0 ? below(6) - 1 : below(3);
        int v = below(10) == 0 ? below(220) - 10 : below(8) * 10;
        same("price(" + w + ", " + v + ")", () -> x.price(w, v), () -> o.price(w, v));
    }

    private void step() {
        // A step of the reading itself is the one that most often changes it.
        int of = o.parts() > 1 && below(4) != 0 ? below(o.parts() - 1) : -1;
        int a = of < 0 ? below(12) - 1 : o.part(of, 4);
        int b = of < 0 ? below(10) : o.part(of + 1, 4);
        int v = below(10) == 0 ? below(110) - 10 : below(6) * 5;
        same("step(" + a + ", " + b + ", " + v + ")", () -> x.step(a, b, v), () -> o.step(a, b, v));
    }

    private void type() {
        int l = below(40) == 0 ? below(32) - 2 : 1 + below(letters);
        if (o.typed(-1) < longest || l < 1 || l > 26) {
            same("type(" + l + ")", () -> x.type(l), () -> o.type(l));
        } else {
            same("take()", x::take, o::take);
        }
    }

    /** The letters of a word or an ending of the book, with a slip here and there. */
    private void typeWord() {
        List<int[]> rows = below(4) == 0 ? o.endingSounds : o.wordSounds;
        if (rows.isEmpty()) {
            type();
            return;
        }
        for (int sound : rows.get(below(rows.size()))) {
            int many = o.spellings.get(sound - 1).size();
            int[] spelt = many == 0 ? new int[] {1} : o.spellings.get(sound - 1).get(below(many));
            for (int letter : spelt) {
                int l = below(15) == 0 ? 1 + below(letters) : letter;
                same("type(" + l + ")", () -> x.type(l), () -> o.type(l));
            }
        }
    }

    private void choose() {
        int parts = o.parts();
        boolean wrongly = parts == 0 || below(8) == 0;
        int i = wrongly ? below(parts + 2) - 1 : below(parts);
        int k = wrongly ? below(15) - 1 : below(o.choices(i));
        same("choose(" + i + ", " + k + ")", () -> {
            x.choose(i, k);
            return 0;
        }, () -> {
            o.choose(i, k);
            return 0;
        });
    }

    private void setBreak() {
        int p = below(10) == 0 ? below(longest + 4) - 1 : 1 + below(Math.max(1, o.typed(-1) - 1));
        int h = below(20) == 0 ? below(7) - 2 : below(3);
        same("setBreak(" + p + ", " + h + ")", () -> x.setBreak(p, h), () -> o.setBreak(p, h));
    }

    private void back() {
        same("back()", () -> x.back() ? 1 : 0, () -> o.back() ? 1 : 0);
    }

    private void act() {
        int what = below(100);
        if (what < 40 && isLong && below(2) == 0) {
            typeWord();
        } else if (what < 40) {
            type();
        } else if (what < 58) {
            choose();
        } else if (what < 72) {
            setBreak();
        } else if (what < 82) {
            back();
        } else if (what < 84) {
            same("free()", x::free, o::free);
        } else if (what < 85) {
            same("empty()", x::empty, o::empty);
        } else if (what < 88) {
            same("take()", x::take, o::take);
        } else if (what < 90) {
            same("unlearn()", x::unlearn, o::unlearn);
        } else if (what < 92) {
            spelling();
        } else if (what < 93) {
            word();
        } else if (what < 94) {
            ending();
        } else if (what < 97) {
            price();
        } else {
            step();
        }
    }

    private void lookAtReading() {
        same("cost()", x::cost, o::cost);
        same("parts()", x::parts, o::parts);
        for (int i = -1; i <= o.parts(); i++) {
            lookAtPart(i, below(9) - 1);
            lookAtPart(i, 1);
            lookAtPart(i, 2);
            lookAtPart(i, 3);
        }
    }

    private void lookAtPart(int i, int what) {
        same("part(" + i + ", " + what + ")", () -> x.part(i, what), () -> o.part(i, what));
    }

    private void lookAtSigns() {
        for (int k = -2; k <= o.sign(-1); k++) {
            int at = k;
            same("sign(" + at + ")", () -> x.sign(at), () -> o.sign(at));
        }
    }

    private void lookAtLetters() {
        for (int i = -2; i <= o.typed(-1); i++) {
            int at = i;
            same("typed(" + at + ")", () -> x.typed(at), () -> o.typed(at));
        }
    }

    private void lookAtNumbers() {
        for (int w = -1; w <= 5; w++) {
            int what = w;
            same("about(" + what + ")", () -> x.about(what), () -> o.about(what));
        }
    }

    private void lookAtLearnt() {
        for (int i = 0; i < 6; i++) {
            int w = below(o.about(0) + 2) - 1;
            int a = below(11) - 1;
            int b = below(10);
            same("count(" + w + ")", () -> x.count(w), () -> o.count(w));
            same("pairs(" + a + ", " + b + ")", () -> x.pairs(a, b), () -> o.pairs(a, b));
        }
    }

    private void lookAtChoices() {
        int i = below(o.parts() + 1) - (below(20) == 0 ? 1 : 0);
        same("choices(" + i + ")", () -> x.choices(i), () -> o.choices(i));
        int first = below(14) - 1;
        for (int j = first; j < first + 4; j++) {
            int k = j;
            for (int w = 0; w < 3; w++) {
                int what = w;
                same("choice(" + i + ", " + k + ", " + what + ")", () -> x.choice(i, k, what), () -> o.choice(i, k, what));
            }
        }
        int what = below(2) * 4 - 1;
        same("choice(" + i + ", 0, " + what + ")", () -> x.choice(i, 0, what), () -> o.choice(i, 0, what));
    }

    private void look() {
        int what = below(10);
        if (what < 4) {
            lookAtReading();
        } else if (what < 6) {
            lookAtChoices();
        } else if (what < 7) {
            lookAtSigns();
        } else if (what < 8) {
            lookAtLetters();
        } else if (what < 9) {
            lookAtNumbers();
        } else {
            lookAtLearnt();
        }
    }

    private void writeBook() {
        int spellings = 2 + below(sounds * 3);
        int words = isLong ? below(2) * 40 + below(25) : below(12);
        int endings = isLong ? below(10) : below(5);
        for (int i = 0; i < spellings; i++) {
            spelling();
        }
        for (int i = 0; i < words; i++) {
            word();
        }
        for (int i = 0; i < endings; i++) {
            ending();
        }
        for (int i = 0; i < 6; i++) {
            step();
        }
    }

    private void go() {
        writeBook();
        while (goesOn()) {
            act();
            // A book that parts a line in too many ways would take the Oracle too long.
            if (!isLong && o.partings() > 3000) {
                return;
            }
            if (below(actsALook) == 0) {
                look();
            }
        }
    }

    private static void runs(int many, boolean isLong) {
        for (int number = 1; number <= many && wrong == 0; number++) {
            new OracleTest(number, isLong).go();
        }
    }

    public static void main(String[] args) {
        runs(SHORT_RUNS, false);
        runs(LONG_RUNS, true);
        System.out.println(compared + " answers compared, " + wrong + " wrong");
        if (wrong != 0) {
            System.exit(1);
        }
    }
}
