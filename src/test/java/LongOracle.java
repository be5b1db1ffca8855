import java.util.ArrayList;
import java.util.Arrays;
import java.util.HashMap;
import java.util.List;
import java.util.Map;

/** The Oracle for long lines and full books: the cheapest way on is kept for each place and kind, not every parting. */
final class LongOracle extends Oracle {
    /** The kind ahead of the line's first part. */
    private static final int NO_KIND = 9;

    /** A part and the least price of spelling it. */
    private static final class Spelt {
        final Part part;
        final int price;

        Spelt(Part part, int price) {
            this.part = part;
            this.price = price;
        }
    }

    /** A part and the cheapest way on behind it; null in its place: there is no way. */
    private static final class Way {
        final Part first;
        final Way rest;
        final int cost;

        Way(Part first, Way rest, int cost) {
            this.first = first;
            this.rest = rest;
            this.cost = cost;
        }
    }

    /** For each line the parts from each of its places, until the book changes: only to save time. */
    private final Map<List<Integer>, List<List<Spelt>>> tables = new HashMap<>();
    private int changesSeen;

    @Override
    int spellCost(int[] sounds, int from, int to) {
        return spellPrices(sounds, from)[to];
    }

    /** For each place the least price of spelling these sounds up to it; -1: they can't be. */
    private int[] spellPrices(int[] sounds, int from) {
        int[] now = new int[38];
        Arrays.fill(now, -1);
        now[from] = 0;
        for (int sound : sounds) {
            int[] next = new int[38];
            Arrays.fill(next, -1);
            for (int at = from; at <= state.letters.size(); at++) {
                for (int s = 0; s < spellings.get(sound - 1).size() && now[at] >= 0; s++) {
                    int[] row = spellings.get(sound - 1).get(s);
                    int to = at + row.length;
                    if (to <= state.letters.size() && slips(row, at) <= 1) {
                        int price = now[at] + spellingPrices.get(sound - 1).get(s) + slips(row, at) * prices[0];
                        next[to] = next[to] < 0 ? price : Math.min(next[to], price);
                    }
                }
            }
            now = next;
        }
        return now;
    }

    private List<List<Spelt>> table() {
        if (changesSeen != bookChanges) {
            changesSeen = bookChanges;
            tables.clear();
        }
        List<List<Spelt>> table = tables.get(state.letters);
        if (table == null) {
            table = new ArrayList<>();
            for (int from = 0; from < state.letters.size(); from++) {
                table.add(partsFrom(from));
            }
            tables.put(new ArrayList<>(state.letters), table);
        }
        return table;
    }

    private List<Spelt> partsFrom(int from) {
        List<Spelt> found = new ArrayList<>();
        for (int w = 0; w < wordSounds.size(); w++) {
            for (int e = -1; e < endingSounds.size(); e++) {
                if (!goesWith(w, e)) {
                    continue;
                }
                int[] spellPrices = spellPrices(soundsOf(new Part(from, from, w, e)), from);
                for (int to = from + 1; to <= state.letters.size(); to++) {
                    if (spellPrices[to] >= 0) {
                        found.add(new Spelt(new Part(from, to, w, e), spellPrices[to]));
                    }
                }
            }
        }
        found.add(new Spelt(new Part(from, from + 1, -1, -1), 0));
        return found;
    }

    private boolean allowed(Part p, List<Part> fixed) {
        for (Part f : fixed) {
            if (f.overlaps(p) && !f.same(p)) {
                return false;
            }
        }
        for (int place = p.from + 1; place < p.to; place++) {
            if (state.breaks[place] == 1) {
                return false;
            }
        }
        boolean begins = p.from == 0 || state.breaks[p.from] != 2;
        boolean ends = p.to == state.letters.size() || state.breaks[p.to] != 2;
        return begins && ends;
    }

    /** The cheapest parting with these fixed parts, of like ones the first; null: there is none. */
    private Way cheapest(List<Part> fixed) {
        List<List<Spelt>> table = table();
        int n = state.letters.size();
        Way[][] ways = new Way[n + 1][NO_KIND + 1];
        Arrays.fill(ways[n], new Way(null, null, 0));
        for (int place = n - 1; place >= 0; place--) {
            for (Spelt spelt : table.get(place)) {
                Part p = spelt.part;
                Way rest = ways[p.to][kind(p)];
                if (rest == null || !allowed(p, fixed)) {
                    continue;
                }
                int cost = (p.word < 0 ? prices[1] : costBesideSpelling(p) + spelt.price) + rest.cost;
                for (int ahead = 0; ahead <= NO_KIND; ahead++) {
                    int whole = cost + (ahead == NO_KIND ? 0 : stepCost(ahead, kind(p)));
                    Way known = ways[place][ahead];
                    boolean better = known == null || whole < known.cost
                            || whole == known.cost && compare(p, known.first) < 0;
                    ways[place][ahead] = better ? new Way(p, rest, whole) : known;
                }
            }
        }
        return ways[0][NO_KIND];
    }

    @Override
    List<Part> findReading() {
        Way way = cheapest(state.fixed);
        if (way == null) {
            return null;
        }
        List<Part> parting = new ArrayList<>();
        while (way.first != null) {
            parting.add(way.first);
            way = way.rest;
        }
        return parting;
    }

    @Override
    Integer leastWith(Part p) {
        List<Part> fixed = new ArrayList<>();
        for (Part f : state.fixed) {
            if (!f.overlaps(p)) {
                fixed.add(f);
            }
        }
        fixed.add(p);
        Way way = cheapest(fixed);
        return way == null ? null : way.cost;
    }
}
