import java.util.ArrayList;
import java.util.List;
import java.util.NoSuchElementException;

/**
 * The document's words as directly as they can be put: every parting of the line is made and looked at. Far too slow for
 * long lines; it is what SoundLine's answers are held against on short ones. LongOracle is for the long ones.
 */
class Oracle {
    static final class Part {
        final int from;
        final int to;
        final int word;
        final int ending;

        Part(int from, int to, int word, int ending) {
            this.from = from;
            this.to = to;
            this.word = word;
            this.ending = ending;
        }

        boolean same(Part o) {
            return from == o.from && to == o.to && word == o.word && ending == o.ending;
        }

        boolean overlaps(Part o) {
            return from < o.to && o.from < to;
        }
    }

    /** The line and the hand. */
    static final class State {
        List<Integer> letters = new ArrayList<>();
        int[] breaks = new int[38];
        List<Part> fixed = new ArrayList<>();

        State copy() {
            State s = new State();
            s.letters = new ArrayList<>(letters);
            s.breaks = breaks.clone();
            s.fixed = new ArrayList<>(fixed);
            return s;
        }
    }

    final List<List<int[]>> spellings = new ArrayList<>();
    final List<List<Integer>> spellingPrices = new ArrayList<>();
    final List<int[]> wordSounds = new ArrayList<>();
    final List<int[]> wordSigns = new ArrayList<>();
    final List<Integer> wordKinds = new ArrayList<>();
    final List<Integer> wordClasses = new ArrayList<>();
    final List<Integer> counts = new ArrayList<>();
    final List<int[]> endingSounds = new ArrayList<>();
    final List<Integer> endingSigns = new ArrayList<>();
    final List<Integer> endingClasses = new ArrayList<>();
    final List<Integer> endingPrices = new ArrayList<>();
    final int[] prices = {30, 70, 100};
    final int[][] steps = new int[9][9];
    final int[][] pairsOf = new int[9][9];
    State state = new State();
    List<State> history = new ArrayList<>();
    final List<List<Part>> taken = new ArrayList<>();
    /** The reading, until something changes: only to save time. */
    private List<Part> reading;
    private List<List<Part>> all;
    private boolean known;
    /** How often the book has changed what a part costs or how it is spelt. */
    int bookChanges;

    Oracle() {
        for (int i = 0; i < 50; i++) {
            spellings.add(new ArrayList<>());
            spellingPrices.add(new ArrayList<>());
        }
    }

    static int[] members(long row, int bits, int greatest, int most) {
        List<Integer> found = new ArrayList<>();
        boolean ended = false;
        for (int i = 0; i * bits < 64; i++) {
            long member = (row >>> (i * bits)) & ((1L << bits) - 1);
            if (member == 0) {
                ended = true;
            } else if (ended || member > greatest) {
                throw new IllegalArgumentException();
            } else {
                found.add((int) member);
            }
        }
        if (found.isEmpty() || found.size() > most) {
            throw new IllegalArgumentException();
        }
        int[] row2 = new int[found.size()];
        for (int i = 0; i < row2.length; i++) {
            row2[i] = found.get(i);
        }
        return row2;
    }

    static void range(int v, int least, int most) {
        if (v < least || v > most) {
            throw new IllegalArgumentException();
        }
    }

    static void element(int v, int many) {
        if (v < 0 || v >= many) {
            throw new NoSuchElementException();
        }
    }

    int spelling(int sound, long letters, int price) {
        range(sound, 0, 49);
        int[] row = members(letters, 5, 26, 4);
        range(price, 0, 40);
        for (int[] r : spellings.get(sound)) {
            if (java.util.Arrays.equals(r, row)) {
                return -1;
            }
        }
        if (spellings.get(sound).size() == 3) {
            return -1;
        }
        bookChanged();
        spellings.get(sound).add(row);
        spellingPrices.get(sound).add(price);
        return spellings.get(sound).size();
    }

    int word(long sounds, long signs, int kind, int itsClass) {
        int[] s = members(sounds, 6, 50, 6);
        int[] g = members(signs, 14, 16383, 4);
        range(kind, 0, 7);
        range(itsClass, -1, 5);
        if (wordSounds.size() == 60) {
            return -1;
        }
        bookChanged();
        wordSounds.add(s);
        wordSigns.add(g);
        wordKinds.add(kind);
        wordClasses.add(itsClass);
        counts.add(0);
        return wordSounds.size() - 1;
    }

    int ending(long sounds, int sign, int itsClass, int price) {
        int[] s = members(sounds, 6, 50, 3);
        range(sign, 1, 16383);
        range(itsClass, 0, 5);
        range(price, 0, 60);
        if (endingSounds.size() == 8) {
            return -1;
        }
        bookChanged();
        endingSounds.add(s);
        endingSigns.add(sign);
        endingClasses.add(itsClass);
        endingPrices.add(price);
        return endingSounds.size() - 1;
    }

    int price(int what, int v) {
        range(what, 0, 2);
        range(v, 0, 200);
        bookChanged();
        int was = prices[what];
        prices[what] = v;
        return was;
    }

    int step(int a, int b, int v) {
        range(a, 0, 8);
        range(b, 0, 8);
        range(v, 0, 90);
        known = false;
        int was = steps[a][b];
        steps[a][b] = v;
        return was;
    }

    private void bookChanged() {
        known = false;
        bookChanges++;
    }

    private void act() {
        history.add(state.copy());
        if (history.size() > 80) {
            history.remove(0);
        }
        known = false;
    }

    int type(int letter) {
        range(letter, 1, 26);
        if (state.letters.size() == 36) {
            return -1;
        }
        act();
        int place = state.letters.size();
        state.letters.add(letter);
        for (Part f : state.fixed) {
            if (f.to == place) {
                state.breaks[place] = 1;
            }
        }
        return state.letters.size();
    }

    int typed(int i) {
        if (i == -1) {
            return state.letters.size();
        }
        element(i, state.letters.size());
        return state.letters.get(i);
    }

    // ---- the reading

    /** The least price of spelling these sounds by the letters of a stretch; -1: they can't be. */
    int spellCost(int[] sounds, int from, int to) {
        return spellRest(sounds, 0, from, to);
    }

    private int spellRest(int[] sounds, int i, int at, int to) {
        if (i == sounds.length) {
            return at == to ? 0 : -1;
        }
        int least = -1;
        int sound = sounds[i] - 1;
        for (int s = 0; s < spellings.get(sound).size(); s++) {
            int[] row = spellings.get(sound).get(s);
            if (at + row.length > to) {
                continue;
            }
            int slips = slips(row, at);
            int rest = slips > 1 ? -1 : spellRest(sounds, i + 1, at + row.length, to);
            if (rest >= 0) {
                int cost = rest + spellingPrices.get(sound).get(s) + slips * prices[0];
                least = least < 0 || cost < least ? cost : least;
            }
        }
        return least;
    }

    /** How many letters of the line from a place on are not those of a spelling. */
    int slips(int[] row, int at) {
        int slips = 0;
        for (int j = 0; j < row.length; j++) {
            slips += row[j] == state.letters.get(at + j) ? 0 : 1;
        }
        return slips;
    }

    int[] soundsOf(Part p) {
        int[] stem = wordSounds.get(p.word);
        if (p.ending < 0) {
            return stem;
        }
        int[] end = endingSounds.get(p.ending);
        int[] both = java.util.Arrays.copyOf(stem, stem.length + end.length);
        System.arraycopy(end, 0, both, stem.length, end.length);
        return both;
    }

    private static int bits(int n) {
        return n == 0 ? 0 : Integer.toBinaryString(n).length();
    }

    private boolean spelt(Part p) {
        return p.word < 0 ? p.to == p.from + 1 : spellCost(soundsOf(p), p.from, p.to) >= 0;
    }

    private int partCost(Part p) {
        return p.word < 0 ? prices[1] : costBesideSpelling(p) + spellCost(soundsOf(p), p.from, p.to);
    }

    int costBesideSpelling(Part p) {
        int own = p.ending < 0 ? 0 : endingPrices.get(p.ending);
        return prices[2] - 8 * bits(counts.get(p.word)) + own;
    }

    int kind(Part p) {
        return p.word < 0 ? 8 : wordKinds.get(p.word);
    }

    int stepCost(int a, int b) {
        return steps[a][b] - 2 * bits(pairsOf[a][b]);
    }

    private int partingCost(List<Part> parting) {
        int cost = 0;
        for (int i = 0; i < parting.size(); i++) {
            cost += partCost(parting.get(i));
            if (i > 0) {
                cost += stepCost(kind(parting.get(i - 1)), kind(parting.get(i)));
            }
        }
        return cost;
    }

    boolean goesWith(int word, int ending) {
        return ending < 0 || endingClasses.get(ending).intValue() == wordClasses.get(word).intValue();
    }

    private List<Part> partsOver(int from, int to) {
        List<Part> found = new ArrayList<>();
        for (int w = 0; w < wordSounds.size(); w++) {
            for (int e = -1; e < endingSounds.size(); e++) {
                if (goesWith(w, e)) {
                    Part p = new Part(from, to, w, e);
                    if (spelt(p)) {
                        found.add(p);
                    }
                }
            }
        }
        Part guess = new Part(from, to, -1, -1);
        if (spelt(guess)) {
            found.add(guess);
        }
        return found;
    }

    private boolean breaksFit(List<Part> parting) {
        boolean[] broken = new boolean[37];
        for (Part p : parting) {
            broken[p.from] = true;
        }
        for (int i = 1; i < state.letters.size(); i++) {
            if (state.breaks[i] == 1 && !broken[i] || state.breaks[i] == 2 && broken[i]) {
                return false;
            }
        }
        return true;
    }

    private boolean hasFixed(List<Part> parting, Part except) {
        for (Part f : state.fixed) {
            boolean has = except != null && f.overlaps(except);
            for (Part p : parting) {
                has |= p.same(f);
            }
            if (!has) {
                return false;
            }
        }
        return true;
    }

    private static boolean has(List<Part> parting, Part part) {
        for (Part p : parting) {
            if (p.same(part)) {
                return true;
            }
        }
        return false;
    }

    private void makeAll(int from, List<Part> ahead, Part[][][] table) {
        int n = state.letters.size();
        if (from == n) {
            if (breaksFit(ahead)) {
                all.add(new ArrayList<>(ahead));
            }
            return;
        }
        for (int to = from + 1; to <= n; to++) {
            for (Part p : table[from][to]) {
                ahead.add(p);
                makeAll(to, ahead, table);
                ahead.remove(ahead.size() - 1);
            }
        }
    }

    /** Which of two parts from one place is the first one in the document's order. */
    static int compare(Part p, Part q) {
        int pw = p.word < 0 ? 1000 : p.word;
        int qw = q.word < 0 ? 1000 : q.word;
        if (pw != qw) {
            return pw - qw;
        }
        return p.ending != q.ending ? p.ending - q.ending : p.to - q.to;
    }

    private static int compare(List<Part> a, List<Part> b) {
        for (int i = 0; i < a.size() && i < b.size(); i++) {
            int order = compare(a.get(i), b.get(i));
            if (order != 0) {
                return order;
            }
        }
        return 0;
    }

    private void read() {
        if (!known) {
            known = true;
            reading = findReading();
        }
    }

    /** The reading; null: no parting is allowed. */
    List<Part> findReading() {
        int n = state.letters.size();
        Part[][][] table = new Part[n + 1][n + 1][];
        for (int a = 0; a < n; a++) {
            for (int b = a + 1; b <= n; b++) {
                table[a][b] = partsOver(a, b).toArray(new Part[0]);
            }
        }
        all = new ArrayList<>();
        makeAll(0, new ArrayList<>(), table);
        List<Part> first = null;
        int least = 0;
        for (List<Part> parting : all) {
            if (!hasFixed(parting, null)) {
                continue;
            }
            int cost = partingCost(parting);
            if (first == null || cost < least || cost == least && compare(parting, first) < 0) {
                first = parting;
                least = cost;
            }
        }
        return first;
    }

    /** The least cost of all partings that have a part and are allowed but for fixed parts over it; null: there is none. */
    Integer leastWith(Part p) {
        Integer least = null;
        for (List<Part> parting : all) {
            if (has(parting, p) && hasFixed(parting, p)) {
                int cost = partingCost(parting);
                least = least == null ? cost : Math.min(least, cost);
            }
        }
        return least;
    }

    int partings() {
        read();
        return all.size();
    }

    int cost() {
        read();
        return reading == null ? -1000000 : partingCost(reading);
    }

    int parts() {
        read();
        return reading == null ? 0 : reading.size();
    }

    int part(int i, int what) {
        element(i, parts());
        Part p = reading.get(i);
        switch (what) {
            case 0: return p.from;
            case 1: return p.to;
            case 2: return p.word;
            case 3: return p.ending;
            case 4: return kind(p);
            case 5: return partCost(p);
            case 6: return has(state.fixed, p) ? 1 : 0;
            default: throw new NoSuchElementException();
        }
    }

    int sign(int k) {
        List<Integer> signs = new ArrayList<>();
        for (int i = 0; i < parts(); i++) {
            Part p = reading.get(i);
            if (p.word < 0) {
                signs.add(20000 + state.letters.get(p.from));
                continue;
            }
            for (int s : wordSigns.get(p.word)) {
                signs.add(s);
            }
            if (p.ending >= 0) {
                signs.add(endingSigns.get(p.ending));
            }
        }
        if (k == -1) {
            return signs.size();
        }
        element(k, signs.size());
        return signs.get(k);
    }

    private List<int[]> listChoices(int i) {
        element(i, parts());
        Part at = reading.get(i);
        List<int[]> found = new ArrayList<>();
        for (Part p : partsOver(at.from, at.to)) {
            Integer least = leastWith(p);
            if (least != null) {
                found.add(new int[] {p.word, p.ending, least});
            }
        }
        found.sort((x, y) -> Integer.compare(x[2], y[2]));
        return found.size() > 12 ? found.subList(0, 12) : found;
    }

    int choices(int i) {
        return listChoices(i).size();
    }

    int choice(int i, int k, int what) {
        List<int[]> found = listChoices(i);
        element(k, found.size());
        element(what, 3);
        return found.get(k)[what];
    }

    void choose(int i, int k) {
        List<int[]> found = listChoices(i);
        element(k, found.size());
        Part at = reading.get(i);
        Part p = new Part(at.from, at.to, found.get(k)[0], found.get(k)[1]);
        act();
        state.fixed.removeIf(f -> f.overlaps(p));
        state.fixed.add(p);
        for (int b = p.from + 1; b < p.to; b++) {
            state.breaks[b] = 2;
        }
        state.breaks[p.from] = 1;
        if (p.to < state.letters.size()) {
            state.breaks[p.to] = 1;
        }
    }

    int setBreak(int place, int how) {
        range(place, 1, state.letters.size() - 1);
        range(how, 0, 2);
        int was = state.breaks[place];
        act();
        state.breaks[place] = how;
        if (how != 2) {
            state.fixed.removeIf(f -> f.from < place && place < f.to);
        }
        if (how != 1) {
            state.fixed.removeIf(f -> f.from == place || f.to == place);
        }
        return was;
    }

    int free() {
        int were = state.fixed.size();
        act();
        state.fixed.clear();
        state.breaks = new int[38];
        return were;
    }

    int empty() {
        int were = state.letters.size();
        act();
        state = new State();
        return were;
    }

    boolean back() {
        if (history.isEmpty()) {
            return false;
        }
        known = false;
        state = history.remove(history.size() - 1);
        return true;
    }

    private void learn(List<Part> line, int by) {
        for (int i = 0; i < line.size(); i++) {
            int w = line.get(i).word;
            if (w >= 0) {
                counts.set(w, counts.get(w) + by);
            }
            if (i > 0) {
                pairsOf[kind(line.get(i - 1))][kind(line.get(i))] += by;
            }
        }
    }

    int take() {
        if (parts() == 0 || taken.size() == 40) {
            return -1;
        }
        List<Part> line = reading;
        taken.add(line);
        learn(line, 1);
        state = new State();
        history.clear();
        known = false;
        return line.size();
    }

    int unlearn() {
        if (taken.isEmpty()) {
            return -1;
        }
        known = false;
        learn(taken.remove(taken.size() - 1), -1);
        return taken.size();
    }

    int count(int word) {
        element(word, counts.size());
        return counts.get(word);
    }

    int pairs(int a, int b) {
        element(a, 9);
        element(b, 9);
        return pairsOf[a][b];
    }

    int about(int what) {
        switch (what) {
            case 0: return wordSounds.size();
            case 1: return endingSounds.size();
            case 2: return history.size();
            case 3: return taken.size();
            case 4: return state.fixed.size();
            default: throw new NoSuchElementException();
        }
    }
}
