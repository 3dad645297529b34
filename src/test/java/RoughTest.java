/** Wild arguments in many states: whatever they are, no call throws, and an error code changes nothing. */
public final class RoughTest {
    private static final int[] WILD = {Integer.MIN_VALUE, -1000, -2, -1, 0, 1, 2, 3, 4, 5, 6, 7, 8, 39, 40, 41, 64, 100,
        255, 256, 1 << 30, Integer.MAX_VALUE};
    private static final String[] TEXTS = {"sites 2;whole;", "sites 4;bound 6;bits;whole;bits;whole;", "", "bound 1;limit 1;whole;", "x"};

    private static long state;

    private static int next(int below) {
        state = state * 6364136223846793005L + 1442695040888963407L;
        return (int) ((state >>> 33) % below);
    }

    private static int wild() {
        return next(3) == 0 ? WILD[next(WILD.length)] : next(4);
    }

    public static void main(String[] args) {
        for (int run = 1; run <= 400; run++) {
            state = run;
            Check.at("rough run " + run);
            SideVersions x = new SideVersions();
            for (int i = 0; i < 512; i++) {
                call(x);
            }
        }
        errorsChangeNothing();
        Check.finish();
    }

    private static void call(SideVersions x) {
        int a = wild(), b = wild(), c = wild(), d = wild(), e = wild(), f = wild();
        long value = next(2) == 0 ? (long) a << 32 | b : a;
        switch (next(26)) {
            case 0: x.type(a); break;
            case 1: x.clear(); break;
            case 2: if (next(6) == 0) { x.clear(); Check.type(x, TEXTS[next(TEXTS.length)]); } x.tells(); break;
            case 3: x.blinds(a); break;
            case 4: x.rules(a, b); break;
            case 5: x.row(a, b, c); break;
            case 6: x.sibling(a, b, c, d); break;
            case 7: x.context(a, b); break;
            case 8: x.write(a, b, c, d); break;
            case 9: x.ahead(a, b, c, d, e, f); break;
            case 10: x.alike(a, b, c); break;
            case 11: x.behind(a, b); break;
            case 12: x.spread(a, b); break;
            case 13: x.rule(a, b); break;
            case 14: x.tally(a, b); break;
            case 15: x.count(a); break;
            case 16: case 17: x.merges(a, b); break;
            case 18: case 19: x.reads(a, b, c); break;
            case 20: case 21: x.sends(a, b, c); break;
            default: x.writes(a, b, c, next(2), value);
        }
    }

    /** What can be asked of a store, as one text. */
    private static String face(SideVersions x) {
        StringBuilder all = new StringBuilder();
        for (int a = 0; a < 6; a++) {
            all.append(x.count(a)).append(' ');
            for (int b = -1; b < 9; b++) {
                all.append(x.context(a, b)).append(' ').append(x.rule(a, b)).append(' ').append(x.tally(a, b)).append(' ');
                for (int c = 0; c < 8; c++) {
                    all.append(x.row(a, b, c)).append(' ');
                    for (int d = 0; d < 42; d++) {
                        all.append(x.sibling(a, b, c, d)).append(' ').append(x.write(a, b, d, c)).append(' ');
                    }
                }
            }
        }
        return all.toString();
    }

    private static void errorsChangeNothing() {
        for (int run = 1; run <= 20; run++) {
            state = run;
            Check.at("errors change nothing, run " + run);
            SideVersions x = Check.store("sites 3;bound 3;limit 2;whole;bits;");
            for (int i = 0; i < 150; i++) {
                x.writes(next(4), next(3), next(2), next(2), next(2) == 0 ? Long.MAX_VALUE - i : i);
                x.sends(next(3), next(3), next(2));
                x.reads(next(4), next(3), next(2));
                if (i % 10 == 0) {
                    wrongOnes(x);
                }
            }
        }
    }

    private static void wrongOnes(SideVersions x) {
        String before = face(x);
        for (int i = 0; i < 20; i++) {
            int a = wild(), b = wild(), c = wild();
            boolean wrongSite = a < 0 || a > 2;
            boolean wrongKey = c < 0 || c > 1;
            if (wrongSite || wrongKey) {
                Check.due("sends", x.sends(a, 1, c), Check.BAD);
                Check.due("sends", x.sends(1, a, c), Check.BAD);
                Check.due("merges", x.merges(a, c), Check.BAD);
                Check.due("reads", x.reads(1, a, c), Check.BAD);
                Check.due("writes", x.writes(1, a, c, 0, 1L), Check.BAD);
            }
            if (wrongKey) {
                Check.due("rules", x.rules(c, 0), Check.BAD);
            }
            if (b < 0 || b > 3) {
                Check.due("reads", x.reads(b, 0, 0), Check.BAD);
                Check.due("writes", x.writes(b, 0, 0, 0, 1L), Check.BAD);
                Check.due("blinds", x.blinds(b), Check.BAD);
            }
            Check.due("merges without a rule", x.merges(0, 0), Check.STATE);
            Check.due("writes of another kind is refused", x.writes(0, 0, 0, 1, 1L) < 0 ? 1 : 0, 1);
        }
        Check.due("the same as before", before.equals(face(x)) ? 1 : 0, 1);
    }
}
