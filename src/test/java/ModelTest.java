import java.util.ArrayList;
import java.util.List;

/** Long runs of calls whose every answer is compared with that of the plain model. */
public final class ModelTest {
    private static final int RUNS = 90;
    private static final int DEEDS = 300;
    private static final int LAST_CALL = 512;
    private static final long[] VALUES = {0, 1, 2, 6, 12, 35, -1, -6, -12, Long.MAX_VALUE, Long.MIN_VALUE,
        Long.MIN_VALUE + 1, Long.MAX_VALUE - 1, 1L << 62, 77};

    private static long state;

    /** A fixed sequence of numbers, so that a wrong answer comes again. */
    private static int next(int below) {
        state = state * 6364136223846793005L + 1442695040888963407L;
        return (int) ((state >>> 33) % below);
    }

    /** Mostly a number that exists, now and then one beside. */
    private static int near(int size) {
        return next(40) == 0 ? next(2) == 0 ? -1 : size : next(Math.max(size, 1));
    }

    /** A call, and what the model has answered to it. */
    private static final class Asked {
        final String name;
        final long want;
        final Twins.Call call;

        Asked(String name, long want, Twins.Call call) {
            this.name = name;
            this.want = want;
            this.call = call;
        }

        void of(SideVersions x) {
            Check.due(name, call.on(x), want);
        }
    }

    private final Model m;
    /** In every fourth run nearly all is written at one site, so that its room comes to its end. */
    private final boolean crowded;
    private final List<Asked> deeds = new ArrayList<>();
    private final List<Asked> questions = new ArrayList<>();

    private ModelTest(Model m, boolean crowded) {
        this.m = m;
        this.crowded = crowded;
    }

    public static void main(String[] args) {
        for (int run = 1; run <= RUNS; run++) {
            state = run;
            int[] kinds = new int[1 + next(run % 3 == 0 ? 4 : 2)];
            for (int k = 0; k < kinds.length; k++) {
                kinds[k] = next(2);
            }
            Model m = new Model(2 + next(3), 1 + next(6), 1 + next(4), kinds);
            Check.at("run " + run + " of " + m.text());
            new ModelTest(m, run % 4 == 0).run();
        }
        Check.finish();
    }

    private void run() {
        SideVersions x = Check.store(m.text());
        for (int i = 1; i <= DEEDS; i++) {
            Asked deed = deed();
            deed.of(x);
            deeds.add(deed);
            if (i % 10 == 0) {
                spread(next(m.kinds.length));
                questions.forEach(q -> q.of(x));
                questions.clear();
            }
            if (i == 30 || i == 100 || i == DEEDS) {
                askAll();
            }
        }
    }

    private Asked deed() {
        int client = near(4);
        int site = crowded && next(3) > 0 ? 1 : near(m.sites);
        int key = crowded && next(3) > 0 ? 0 : near(m.kinds.length);
        int other = near(m.sites);
        String args = "(" + client + ", " + site + ", " + key + ", " + other + ")";
        switch (next(12)) {
            case 0: case 1: case 2:
                return new Asked("reads" + args, m.reads(client, site, key), x -> x.reads(client, site, key));
            case 3: case 4: case 5: case 6:
                return write(client, site, key);
            case 7: case 8: case 9:
                return new Asked("sends" + args, m.sends(site, other, key), x -> x.sends(site, other, key));
            case 10:
                return new Asked("merges" + args, m.merges(site, key), x -> x.merges(site, key));
            default:
                if (next(2) == 0) {
                    return new Asked("blinds" + args, m.blinds(client), x -> x.blinds(client));
                }
                int rule = near(5);
                return new Asked("rules" + args, m.rules(key, rule), x -> x.rules(key, rule));
        }
    }

    private Asked write(int client, int site, int key) {
        int kind = next(20) == 0 || key < 0 || key >= m.kinds.length ? near(2) : m.kinds[key];
        long any = VALUES[next(VALUES.length)];
        long value = kind == 1 && any < 0 && next(9) > 0 ? any & Long.MAX_VALUE : any;
        String name = "writes(" + client + ", " + site + ", " + key + ", " + kind + ", " + value + ")";
        return new Asked(name, m.writes(client, site, key, kind, value), x -> x.writes(client, site, key, kind, value));
    }

    private void ask(String name, long want, Twins.Call call) {
        questions.add(new Asked(name, want, call));
    }

    private void spread(int key) {
        int[] spread = m.spreads(key);
        ask("spread(" + key + ", 0)", spread[0], x -> x.spread(key, 0));
        ask("spread(" + key + ", 1)", spread[1], x -> x.spread(key, 1));
    }

    /** Asks all that can be asked, in parts, each of a new object with the same deeds. */
    private void askAll() {
        askOfAll();
        for (int key = -1; key <= m.kinds.length; key++) {
            for (int site = -1; site <= m.sites; site++) {
                askOfSite(key, site);
            }
        }
        int part = LAST_CALL - m.text().length() - 1 - deeds.size();
        for (int from = 0; from < questions.size(); from += part) {
            SideVersions x = Check.store(m.text());
            deeds.forEach(deed -> deed.call.on(x));
            questions.subList(from, Math.min(from + part, questions.size())).forEach(q -> q.of(x));
        }
        questions.clear();
    }

    private void askOfAll() {
        for (int w = -1; w <= 6; w++) {
            int what = w;
            ask("count(" + w + ")", m.count(w), x -> x.count(what));
        }
        for (int c = -1; c <= 4; c++) {
            for (int w = -2; w <= 9; w++) {
                int client = c, what = w;
                ask("context(" + c + ", " + w + ")", m.context(c, w), x -> x.context(client, what));
            }
        }
        for (int n = -1; n <= 3; n++) {
            for (int w = -1; w <= 2; w++) {
                int i = n, what = w;
                ask("rule(" + n + ", " + w + ")", m.rule(n, w), x -> x.rule(i, what));
            }
        }
        for (int k = -1; k <= m.kinds.length; k++) {
            for (int w = -1; w <= 7; w++) {
                int key = k, what = w;
                ask("tally(" + k + ", " + w + ")", m.tally(k, w), x -> x.tally(key, what));
            }
        }
    }

    private void askOfSite(int key, int site) {
        String at = "(" + site + ", " + key + ", ";
        ask("behind" + at, m.behind(site, key), x -> x.behind(site, key));
        for (int o = -1; o <= m.sites; o++) {
            int s = o;
            ask("row" + at + s, m.row(site, key, s), x -> x.row(site, key, s));
            ask("alike" + at + s, m.alike(site, s, key), x -> x.alike(site, s, key));
        }
        for (int n = -1; n <= 7; n++) {
            for (int w = -1; w <= 4; w++) {
                int i = n, what = w;
                ask("sibling" + at + i + ", " + what, m.sibling(site, key, i, what), x -> x.sibling(site, key, i, what));
            }
        }
        int last = Math.max(m.row(site, key, site), 0);
        for (int n = -1; n <= last + 1; n++) {
            askOfWrite(key, site, n);
        }
        askOfWrite(key, site, 41);
    }

    private void askOfWrite(int key, int site, int n) {
        String dot = "(" + key + ", " + site + ", " + n + ", ";
        for (int w = -1; w <= 8; w++) {
            int what = w;
            ask("write" + dot + what, m.write(key, site, n, what), x -> x.write(key, site, n, what));
        }
        for (int b = -1; b <= m.sites; b++) {
            int other = b;
            int number = next(Math.max(m.row(b, key, b), 0) + 2);
            for (int w = -1; w <= 2; w++) {
                int way = w;
                String name = "ahead" + dot + other + ", " + number + ", " + way;
                ask(name, m.ahead(key, site, n, other, number, way), x -> x.ahead(key, site, n, other, number, way));
            }
        }
    }
}
