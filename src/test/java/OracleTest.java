import java.util.NoSuchElementException;

/** Long runs of calls from fixed seeds, each answer held against the Oracle's. */
public final class OracleTest {
    private interface Call {
        int answer();
    }

    private static final int RUNS = 500;
    private static final int CALLS = 260;
    private static final long THROWS_ARGUMENT = Long.MIN_VALUE;
    private static final long THROWS_ELEMENT = Long.MIN_VALUE + 1;
    private static int wrong = 0;
    private static long compared = 0;

    private final int run;
    private final SoundLine x = new SoundLine();
    private final Oracle o = new Oracle();
    private final StringBuilder told = new StringBuilder();
    private final int letters;
    private final int longest;
    private final int sounds;
    private long seed;

    private OracleTest(int run) {
        this.run = run;
        seed = run * 7919L + 17;
        letters = 1 + below(4);
        sounds = 1 + below(7);
        longest = 2 + below(7);
    }

    private int below(int n) {
        seed = seed * 6364136223846793005L + 1442695040888963407L;
        return (int) ((seed >>> 33) % n);
    }

    private static long answer(Call call) {
        try {
            return call.answer();
        } catch (IllegalArgumentException e) {
            return THROWS_ARGUMENT;
        } catch (NoSuchElementException e) {
            return THROWS_ELEMENT;
        }
    }

    private static String name(long answer) {
        return answer == THROWS_ARGUMENT ? "IllegalArgumentException"
                : answer == THROWS_ELEMENT ? "NoSuchElementException" : Long.toString(answer);
    }

    private void same(String call, Call got, Call due) {
        long g = answer(got);
        long d = answer(due);
        compared++;
        if (told.length() < 20000) {
            told.append(call).append(" -> ").append(name(d)).append('\n');
        }
        if (g != d) {
            wrong++;
            if (wrong < 4) {
                System.out.println(told);
            }
            System.out.println("run " + run + ": " + call + " answered " + name(g) + ", due is " + name(d));
        }
    }

    private long row(int most, int bits, int greatest) {
        long row = 0;
        int many = 1 + below(most);
        for (int i = 0; i < many; i++) {
            row |= (long) (1 + below(greatest)) << (i * bits);
        }
        return below(60) == 0 ? row << bits : row;
    }

    private void spelling() {
        int s = below(60) == 0 ? below(60) - 5 : below(sounds);
        long r = row(below(12) == 0 ? 5 : 3, 5, letters + (below(60) == 0 ? 30 : 0));
        int p = below(50) == 0 ? below(50) - 4 : below(3) * 5;
        same("spelling(" + s + ", " + r + ", " + p + ")", () -> x.spelling(s, r, p), () -> o.spelling(s, r, p));
    }

    private void word() {
        long s = row(below(40) == 0 ? 7 : 3, 6, sounds);
        long g = row(below(40) == 0 ? 5 : 3, 14, 16383);
        int k = below(40) == 0 ? below(12) - 2 : below(4) * below(3);
        int c = below(40) == 0 ? below(12) - 4 : below(4) - 1;
        same("word(" + s + ", " + g + ", " + k + ", " + c + ")", () -> x.word(s, g, k, c), () -> o.word(s, g, k, c));
    }

    private void ending() {
        long s = row(below(20) == 0 ? 4 : 2, 6, sounds);
        int g = below(20) == 0 ? below(3) * 16383 - 1 : 1 + below(16383);
        int c = below(20) == 0 ? below(12) - 4 : below(3);
        int p = below(20) == 0 ? below(70) - 5 : below(4) * 5;
        same("ending(" + s + ", " + g + ", " + c + ", " + p + ")", () -> x.ending(s, g, c, p), () -> o.ending(s, g, c, p));
    }

    private void price() {
        int w = below(10) == 0 ? below(6) - 1 : below(3);
        int v = below(10) == 0 ? below(220) - 10 : below(8) * 10;
        same("price(" + w + ", " + v + ")", () -> x.price(w, v), () -> o.price(w, v));
    }

    private void step() {
        int a = below(12) - 1;
        int b = below(10);
        int v = below(10) == 0 ? below(110) - 10 : below(6) * 5;
        same("step(" + a + ", " + b + ", " + v + ")", () -> x.step(a, b, v), () -> o.step(a, b, v));
    }

    private void type() {
        int l = below(40) == 0 ? below(32) - 2 : 1 + below(letters);
        if (o.typed(-1) < longest || l < 1 || l > 26) {
            same("type(" + l + ")", () -> x.type(l), () -> o.type(l));
        } else {
            same("take()", x::take, o::take);
        }
    }

    private void choose() {
        int i = below(o.parts() + 1) - (below(20) == 0 ? 1 : 0);
        int k = below(4);
        same("choose(" + i + ", " + k + ")", () -> {
            x.choose(i, k);
            return 0;
        }, () -> {
            o.choose(i, k);
            return 0;
        });
    }

    private void setBreak() {
        int p = below(10) == 0 ? below(12) - 1 : 1 + below(Math.max(1, o.typed(-1) - 1));
        int h = below(20) == 0 ? below(7) - 2 : below(3);
        same("setBreak(" + p + ", " + h + ")", () -> x.setBreak(p, h), () -> o.setBreak(p, h));
    }

    private void back() {
        same("back()", () -> x.back() ? 1 : 0, () -> o.back() ? 1 : 0);
    }

    private void act() {
        int what = below(100);
        if (what < 40) {
            type();
        } else if (what < 58) {
            choose();
        } else if (what < 72) {
            setBreak();
        } else if (what < 82) {
            back();
        } else if (what < 84) {
            same("free()", x::free, o::free);
        } else if (what < 85) {
            same("empty()", x::empty, o::empty);
        } else if (what < 88) {
            same("take()", x::take, o::take);
        } else if (what < 90) {
            same("unlearn()", x::unlearn, o::unlearn);
        } else if (what < 92) {
            spelling();
        } else if (what < 93) {
            word();
        } else if (what < 94) {
            ending();
        } else if (what < 97) {
            price();
        } else {
            step();
        }
    }

    /** Everything that can be asked without a change. */
    private void lookAtAll() {
        same("cost()", x::cost, o::cost);
        same("parts()", x::parts, o::parts);
        int parts = o.parts();
        for (int i = -1; i <= parts; i++) {
            int at = i;
            for (int w = -1; w <= 7; w++) {
                int what = w;
                same("part(" + at + ", " + what + ")", () -> x.part(at, what), () -> o.part(at, what));
            }
        }
        for (int k = -2; k <= o.sign(-1); k++) {
            int at = k;
            same("sign(" + at + ")", () -> x.sign(at), () -> o.sign(at));
        }
        for (int i = -2; i <= o.typed(-1); i++) {
            int at = i;
            same("typed(" + at + ")", () -> x.typed(at), () -> o.typed(at));
        }
        for (int w = -1; w <= 5; w++) {
            int what = w;
            same("about(" + what + ")", () -> x.about(what), () -> o.about(what));
        }
        for (int w = -1; w <= o.about(0); w++) {
            int at = w;
            same("count(" + at + ")", () -> x.count(at), () -> o.count(at));
        }
        int a = below(11) - 1;
        for (int i = -1; i < 10; i++) {
            int b = i;
            same("pairs(" + a + ", " + b + ")", () -> x.pairs(a, b), () -> o.pairs(a, b));
        }
    }

    private void lookAtChoices() {
        int i = below(o.parts() + 1) - (below(20) == 0 ? 1 : 0);
        same("choices(" + i + ")", () -> x.choices(i), () -> o.choices(i));
        for (int j = -1; j < 14; j++) {
            int k = j;
            for (int w = 0; w < 3; w++) {
                int what = w;
                same("choice(" + i + ", " + k + ", " + what + ")", () -> x.choice(i, k, what), () -> o.choice(i, k, what));
            }
        }
        same("choice(" + i + ", 0, 3)", () -> x.choice(i, 0, 3), () -> o.choice(i, 0, 3));
        same("choice(" + i + ", 0, -1)", () -> x.choice(i, 0, -1), () -> o.choice(i, 0, -1));
    }

    private void go() {
        int spellings = 2 + below(sounds * 3);
        int words = below(12);
        int endings = below(5);
        for (int i = 0; i < spellings; i++) {
            spelling();
        }
        for (int i = 0; i < words; i++) {
            word();
        }
        for (int i = 0; i < endings; i++) {
            ending();
        }
        for (int i = 0; i < 6; i++) {
            step();
        }
        for (int i = 0; i < CALLS && wrong == 0; i++) {
            act();
            // A book that parts a line in too many ways would take the Oracle too long.
            if (o.partings() > 3000) {
                same("empty()", x::empty, o::empty);
                return;
            }
            if (below(3) != 0) {
                lookAtAll();
            }
            if (below(3) == 0) {
                lookAtChoices();
            }
        }
    }

    public static void main(String[] args) {
        for (int run = 1; run <= RUNS && wrong == 0; run++) {
            new OracleTest(run).go();
        }
        System.out.println(compared + " answers compared, " + wrong + " wrong");
        if (wrong != 0) {
            System.exit(1);
        }
    }
}
