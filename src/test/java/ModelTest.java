/** Long runs of calls whose every answer is compared with that of the plain model. */
public final class ModelTest {
    private static final int RUNS = 60;
    private static final int CALLS = 400;
    private static final long[] VALUES = {0, 1, 2, 6, 12, 35, -1, -6, -12, Long.MAX_VALUE, Long.MIN_VALUE,
        Long.MIN_VALUE + 1, Long.MAX_VALUE - 1, 1L << 62, 77};

    private static long state;

    /** A fixed sequence of numbers, so that a wrong answer comes again. */
    private static int next(int below) {
        state = state * 6364136223846793005L + 1442695040888963407L;
        return (int) ((state >>> 33) % below);
    }

    /** Mostly a number that exists, now and then one beside. */
    private static int near(int size) {
        return next(40) == 0 ? next(2) == 0 ? -1 : size : next(Math.max(size, 1));
    }

    public static void main(String[] args) {
        for (int run = 1; run <= RUNS; run++) {
            state = run;
            run(run);
        }
        Check.finish();
    }

    private static void run(int run) {
        int[] kinds = new int[1 + next(run % 3 == 0 ? 4 : 2)];
        for (int k = 0; k < kinds.length; k++) {
            kinds[k] = next(2);
        }
        Model m = new Model(2 + next(3), 1 + next(6), 1 + next(4), kinds);
        SideVersions x = Check.store(m.text());
        Check.at("run " + run + " of " + m.text());
        for (int i = 0; i < CALLS; i++) {
            deed(m, x);
            if (i % 7 == 0) {
                compareSome(m, x);
            }
            if (i % 11 == 0) {
                compareSpread(m, x, next(kinds.length));
            }
            if (i % 40 == 39) {
                compareAll(m, x);
            }
        }
    }

    private static void deed(Model m, SideVersions x) {
        int client = near(4);
        int site = near(m.sites);
        int key = near(m.kinds.length);
        int other = near(m.sites);
        String args = "(" + client + ", " + site + ", " + key + ", " + other + ")";
        switch (next(12)) {
            case 0: case 1: case 2:
                Check.due("reads" + args, x.reads(client, site, key), m.reads(client, site, key));
                break;
            case 3: case 4: case 5: case 6:
                int kind = next(20) == 0 || key < 0 || key >= m.kinds.length ? near(2) : m.kinds[key];
                long value = VALUES[next(VALUES.length)];
                value = kind == 1 && value < 0 && next(9) > 0 ? value & Long.MAX_VALUE : value;
                Check.due("writes" + args, x.writes(client, site, key, kind, value), m.writes(client, site, key, kind, value));
                break;
            case 7: case 8: case 9:
                Check.due("sends" + args, x.sends(site, other, key), m.sends(site, other, key));
                break;
            case 10:
                Check.due("merges" + args, x.merges(site, key), m.merges(site, key));
                break;
            default:
                if (next(2) == 0) {
                    Check.due("blinds" + args, x.blinds(client), m.blinds(client));
                } else {
                    int rule = near(5);
                    Check.due("rules" + args, x.rules(key, rule), m.rules(key, rule));
                }
        }
    }

    private static void compareSpread(Model m, SideVersions x, int key) {
        int[] spread = m.spreads(key);
        Check.due("spread(" + key + ", 0)", x.spread(key, 0), spread[0]);
        Check.due("spread(" + key + ", 1)", x.spread(key, 1), spread[1]);
    }

    private static void compareSome(Model m, SideVersions x) {
        for (int key = -1; key <= m.kinds.length; key++) {
            for (int what = -1; what <= 7; what++) {
                Check.due("tally(" + key + ", " + what + ")", x.tally(key, what), m.tally(key, what));
            }
        }
        for (int client = -1; client <= 4; client++) {
            for (int what = -2; what <= 9; what++) {
                Check.due("context(" + client + ", " + what + ")", x.context(client, what), m.context(client, what));
            }
        }
        for (int i = -1; i <= 3; i++) {
            for (int what = -1; what <= 2; what++) {
                Check.due("rule(" + i + ", " + what + ")", x.rule(i, what), m.rule(i, what));
            }
        }
    }

    private static void compareAll(Model m, SideVersions x) {
        for (int what = -1; what <= 6; what++) {
            Check.due("count(" + what + ")", x.count(what), m.count(what));
        }
        for (int key = -1; key <= m.kinds.length; key++) {
            for (int site = -1; site <= m.sites; site++) {
                compareSite(m, x, key, site);
            }
        }
    }

    private static void compareSite(Model m, SideVersions x, int key, int site) {
        String at = "(" + site + ", " + key + ", ";
        Check.due("behind" + at, x.behind(site, key), m.behind(site, key));
        for (int s = -1; s <= m.sites; s++) {
            Check.due("row" + at + s, x.row(site, key, s), m.row(site, key, s));
            Check.due("alike" + at + s, x.alike(site, s, key), m.alike(site, s, key));
        }
        for (int i = -1; i <= 7; i++) {
            for (int what = -1; what <= 4; what++) {
                Check.due("sibling" + at + i + ", " + what, x.sibling(site, key, i, what), m.sibling(site, key, i, what));
            }
        }
        for (int n = -1; n <= 42; n++) {
            for (int what = -1; what <= 8; what++) {
                Check.due("write" + at + n + ", " + what, x.write(key, site, n, what), m.write(key, site, n, what));
            }
            int other = near(m.sites);
            int number = next(12);
            for (int way = -1; way <= 2; way++) {
                Check.due("ahead" + at + n, x.ahead(key, site, n, other, number, way), m.ahead(key, site, n, other, number, way));
            }
        }
    }
}
