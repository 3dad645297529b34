import java.math.BigInteger;
import java.util.ArrayDeque;
import java.util.ArrayList;
import java.util.Arrays;
import java.util.Comparator;
import java.util.HashMap;
import java.util.List;
import java.util.Map;
import java.util.TreeSet;

/** The document once more, as slow and as literal as can be, without the text: a check for SideVersions. */
final class Model {
    static final class Write {
        final int site, n, stamp;
        final long value;
        final int[] told, known;
        boolean seen, dropped, replaced, merged;

        Write(int site, int n, int stamp, long value, int[] told, int[] known) {
            this.site = site;
            this.n = n;
            this.stamp = stamp;
            this.value = value;
            this.told = told;
            this.known = known;
        }

        boolean coveredBy(int[] row) {
            return row[site] >= n;
        }
    }

    /** A row and the siblings, by stamps, of each site. */
    static final class State {
        final int[][] rows;
        final List<List<Write>> siblings = new ArrayList<>();

        State(int sites) {
            rows = new int[sites][sites];
            for (int s = 0; s < sites; s++) {
                siblings.add(new ArrayList<>());
            }
        }

        State copy() {
            State copy = new State(rows.length);
            for (int s = 0; s < rows.length; s++) {
                copy.rows[s] = rows[s].clone();
                copy.siblings.set(s, new ArrayList<>(siblings.get(s)));
            }
            return copy;
        }

        void send(int from, int to) {
            List<Write> then = new ArrayList<>();
            for (Write w : siblings.get(to)) {
                if (siblings.get(from).contains(w) || !w.coveredBy(rows[from])) {
                    then.add(w);
                }
            }
            for (Write w : siblings.get(from)) {
                if (!siblings.get(to).contains(w) && !w.coveredBy(rows[to])) {
                    then.add(w);
                }
            }
            then.sort(Comparator.comparingInt(w -> w.stamp));
            siblings.set(to, then);
            for (int s = 0; s < rows.length; s++) {
                rows[to][s] = Math.max(rows[to][s], rows[from][s]);
            }
        }

        void dropBeyond(int site, int bound) {
            while (siblings.get(site).size() > bound) {
                siblings.get(site).remove(0).dropped = true;
            }
        }

        String site(int s) {
            StringBuilder text = new StringBuilder(Arrays.toString(rows[s]));
            for (Write w : siblings.get(s)) {
                text.append(' ').append(w.stamp);
            }
            return text.toString();
        }

        String all() {
            StringBuilder text = new StringBuilder();
            for (int s = 0; s < rows.length; s++) {
                text.append(site(s)).append('/');
            }
            return text.toString();
        }

        boolean isAlike() {
            for (int s = 1; s < rows.length; s++) {
                if (!site(s).equals(site(0))) {
                    return false;
                }
            }
            return true;
        }
    }

    final int sites, bound, limit;
    final int[] kinds;
    final State[] states;
    final List<List<Write>> writes = new ArrayList<>();
    final int[] falseSiblings;
    final int[] contextKey = {-1, -1, -1, -1};
    final int[][] known = new int[4][];
    final int[][] told = new int[4][];
    final List<int[]> rules = new ArrayList<>();
    int stamp = 0;

    Model(int sites, int bound, int limit, int[] kinds) {
        this.sites = sites;
        this.bound = bound;
        this.limit = limit;
        this.kinds = kinds;
        states = new State[kinds.length];
        falseSiblings = new int[kinds.length];
        for (int k = 0; k < kinds.length; k++) {
            states[k] = new State(sites);
            writes.add(new ArrayList<>());
        }
    }

    String text() {
        StringBuilder text = new StringBuilder("sites " + sites + ";bound " + bound + ";limit " + limit + ";");
        for (int kind : kinds) {
            text.append(kind == 0 ? "whole;" : "bits;");
        }
        return text.toString();
    }

    private boolean isSite(int s) {
        return 0 <= s && s < sites;
    }

    private boolean isKey(int k) {
        return 0 <= k && k < kinds.length;
    }

    private static boolean isClient(int c) {
        return 0 <= c && c < 4;
    }

    Write find(int key, int site, int n) {
        if (isKey(key)) {
            for (Write w : writes.get(key)) {
                if (w.site == site && w.n == n) {
                    return w;
                }
            }
        }
        return null;
    }

    int reads(int client, int site, int key) {
        if (!isClient(client) || !isSite(site) || !isKey(key)) {
            return -1;
        }
        contextKey[client] = key;
        known[client] = states[key].rows[site].clone();
        int[] row = states[key].rows[site].clone();
        while (Arrays.stream(row).filter(n -> n > 0).count() > limit) {
            Write oldest = null;
            for (int s = 0; s < sites; s++) {
                Write w = find(key, s, row[s]);
                if (row[s] > 0 && (oldest == null || w.stamp < oldest.stamp)) {
                    oldest = w;
                }
            }
            row[oldest.site] = 0;
        }
        told[client] = row;
        states[key].siblings.get(site).forEach(w -> w.seen = true);
        return states[key].siblings.get(site).size();
    }

    int writes(int client, int site, int key, int kind, long value) {
        if (!isClient(client) || !isSite(site) || !isKey(key) || kind < 0 || kind > 1 || kind == 1 && value < 0) {
            return -1;
        }
        int[] row = states[key].rows[site];
        if (row[site] + 1 == 41) {
            return -3;
        }
        if (kinds[key] != kind) {
            return -4;
        }
        int[] tells = new int[sites];
        int[] knows = new int[sites];
        if (contextKey[client] == key) {
            tells = told[client];
            knows = known[client];
            contextKey[client] = -1;
        }
        List<Write> siblings = states[key].siblings.get(site);
        for (Write w : new ArrayList<>(siblings)) {
            if (w.coveredBy(tells)) {
                w.replaced = true;
                siblings.remove(w);
            } else if (w.coveredBy(knows)) {
                falseSiblings[key]++;
            }
        }
        int n = row[site] + 1;
        for (int s = 0; s < sites; s++) {
            row[s] = Math.max(row[s], tells[s]);
        }
        row[site] = n;
        make(key, new Write(site, n, ++stamp, value, tells, knows));
        states[key].dropBeyond(site, bound);
        return n;
    }

    private void make(int key, Write w) {
        writes.get(key).add(w);
        states[key].siblings.get(w.site).add(w);
    }

    int blinds(int client) {
        if (!isClient(client)) {
            return -1;
        }
        int was = contextKey[client] == -1 ? 0 : 1;
        contextKey[client] = -1;
        return was;
    }

    int sends(int from, int to, int key) {
        if (!isSite(from) || !isSite(to) || !isKey(key) || from == to) {
            return -1;
        }
        states[key].send(from, to);
        states[key].dropBeyond(to, bound);
        return states[key].siblings.get(to).size();
    }

    int merges(int site, int key) {
        if (!isSite(site) || !isKey(key)) {
            return -1;
        }
        int rule = -1;
        for (int[] r : rules) {
            rule = r[0] == key ? r[1] : rule;
        }
        List<Write> siblings = states[key].siblings.get(site);
        if (rule == -1 || siblings.size() < 2) {
            return -2;
        }
        int[] row = states[key].rows[site];
        if (row[site] == 40) {
            return -3;
        }
        BigInteger value = mergedValue(siblings, rule, kinds[key]);
        if (value == null) {
            return -5;
        }
        siblings.forEach(w -> w.seen = true);
        siblings.forEach(w -> w.merged = true);
        siblings.clear();
        int n = row[site] + 1;
        make(key, new Write(site, n, ++stamp, value.longValueExact(), row.clone(), row.clone()));
        row[site] = n;
        return n;
    }

    private static boolean isLong(BigInteger value) {
        return value.bitLength() <= 63;
    }

    /** The value, or null if it goes over. */
    private static BigInteger mergedValue(List<Write> siblings, int rule, int kind) {
        BigInteger value = null;
        for (Write w : siblings) {
            BigInteger next = BigInteger.valueOf(w.value);
            if (value == null) {
                value = rule == 3 && kind == 0 ? next.abs() : next;
            } else if (rule == 0) {
                value = value.max(next);
            } else if (rule == 1) {
                value = value.min(next);
            } else if (rule == 2) {
                value = kind == 0 ? value.add(next) : value.or(next);
            } else if (rule == 3) {
                value = kind == 0 ? value.gcd(next) : value.and(next);
            } else {
                value = next;
            }
            if (rule == 2 && !isLong(value)) {
                return null;
            }
        }
        return isLong(value) ? value : null;
    }

    int rules(int key, int rule) {
        if (!isKey(key) || rule < 0 || rule > 4) {
            return -1;
        }
        for (int[] r : rules) {
            if (r[0] == key) {
                r[1] = rule;
                return -9;
            }
        }
        rules.add(new int[] {key, rule});
        return rules.size() > 2 ? rules.remove(0)[0] : -9;
    }

    int row(int site, int key, int s) {
        return isSite(site) && isKey(key) && isSite(s) ? states[key].rows[site][s] : -1;
    }

    long sibling(int site, int key, int i, int what) {
        if (!isSite(site) || !isKey(key) || i < 0 || what < 0 || what > 3) {
            return -1;
        }
        TreeSet<Write> ordered = new TreeSet<>(Comparator.comparingInt(w -> 100 * w.site + w.n));
        ordered.addAll(states[key].siblings.get(site));
        List<Write> list = new ArrayList<>(ordered);
        if (i >= list.size()) {
            return -9;
        }
        Write w = list.get(i);
        return new long[] {w.site, w.n, w.stamp, w.value}[what];
    }

    int context(int client, int what) {
        if (!isClient(client) || what < -1 || what > 7 || what >= 0 && !isSite(what % 4)) {
            return -1;
        }
        if (contextKey[client] == -1) {
            return -9;
        }
        return what == -1 ? contextKey[client] : what < 4 ? known[client][what] : told[client][what - 4];
    }

    private int holders(int key, Write w) {
        int set = 0;
        for (int s = 0; s < sites; s++) {
            set += states[key].siblings.get(s).contains(w) ? 1 << s : 0;
        }
        return set;
    }

    private boolean isLost(int key, Write w) {
        return !w.seen && holders(key, w) == 0;
    }

    long write(int key, int site, int n, int what) {
        Write w = find(key, site, n);
        if (w == null || what < 0 || what > 7) {
            return -1;
        }
        return new long[] {w.value, w.stamp, w.seen ? 1 : 0, w.dropped ? 1 : 0, w.replaced ? 1 : 0, w.merged ? 1 : 0,
            holders(key, w), isLost(key, w) ? 1 : 0}[what];
    }

    int ahead(int key, int a, int m, int b, int n, int way) {
        Write covered = find(key, a, m);
        Write asked = find(key, b, n);
        if (covered == null || asked == null || way < 0 || way > 1) {
            return -1;
        }
        return covered.coveredBy(way == 0 ? asked.told : asked.known) ? 1 : 0;
    }

    int alike(int a, int b, int key) {
        if (!isSite(a) || !isSite(b) || !isKey(key)) {
            return -1;
        }
        return states[key].site(a).equals(states[key].site(b)) ? 1 : 0;
    }

    int behind(int site, int key) {
        if (!isSite(site) || !isKey(key)) {
            return -1;
        }
        int sum = 0;
        for (int s = 0; s < sites; s++) {
            int greatest = 0;
            for (int[] row : states[key].rows) {
                greatest = Math.max(greatest, row[s]);
            }
            sum += greatest - states[key].rows[site][s];
        }
        return sum;
    }

    /** Both answers of spread for a key, by trying all sequences from the shortest on. */
    int[] spreads(int key) {
        ArrayDeque<State> queue = new ArrayDeque<>();
        Map<String, int[]> found = new HashMap<>();
        queue.add(states[key].copy());
        found.put(states[key].all(), new int[] {0, -9});
        int[] best = null;
        while (!queue.isEmpty()) {
            State state = queue.poll();
            int[] at = found.get(state.all());
            if (best != null && at[0] > best[0]) {
                break;
            }
            if (state.isAlike() && (best == null || at[1] < best[1])) {
                best = at;
            }
            for (int from = 0; best == null && from < sites; from++) {
                for (int to = 0; to < sites; to++) {
                    if (from == to) {
                        continue;
                    }
                    State next = state.copy();
                    next.send(from, to);
                    int first = at[0] == 0 ? 10 * from + to : at[1];
                    int[] known = found.get(next.all());
                    if (known == null) {
                        found.put(next.all(), new int[] {at[0] + 1, first});
                        queue.add(next);
                    } else if (known[0] == at[0] + 1) {
                        known[1] = Math.min(known[1], first);
                    }
                }
            }
        }
        return best;
    }

    int rule(int i, int what) {
        if (i < 0 || what < 0 || what > 1) {
            return -1;
        }
        return i < rules.size() ? rules.get(i)[what] : -9;
    }

    int tally(int key, int what) {
        if (!isKey(key) || what < 0 || what > 6) {
            return -1;
        }
        List<Write> all = writes.get(key);
        switch (what) {
            case 0: return kinds[key];
            case 1: return all.size();
            case 2: return (int) all.stream().filter(w -> w.replaced).count();
            case 3: return (int) all.stream().filter(w -> w.merged).count();
            case 4: return (int) all.stream().filter(w -> w.dropped).count();
            case 5: return (int) all.stream().filter(w -> isLost(key, w)).count();
            default: return falseSiblings[key];
        }
    }

    int count(int what) {
        switch (what) {
            case 0: return sites;
            case 1: return kinds.length;
            case 2: return bound;
            case 3: return limit;
            case 4: return stamp;
            case 5: return 0;
            default: return -1;
        }
    }
}
