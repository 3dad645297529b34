/** Wild arguments in many states: whatever they are, no call throws, and each answers as it may. */
public final class RoughTest {
    private static final int[] WILD = {Integer.MIN_VALUE, -1000, -2, -1, 0, 1, 2, 3, 4, 5, 6, 7, 8, 39, 40, 41, 64, 100,
        255, 256, 1 << 30, Integer.MAX_VALUE};
    private static final String[] TEXTS = {"sites 2;whole;", "sites 4;bound 6;bits;whole;bits;whole;", "",
        "bound 1;limit 1;whole;", "x"};
    private static final int LAST_CALL = 512;

    private static long state;

    private static int next(int below) {
        state = state * 6364136223846793005L + 1442695040888963407L;
        return (int) ((state >>> 33) % below);
    }

    private static int wild() {
        return next(3) == 0 ? WILD[next(WILD.length)] : next(4);
    }

    public static void main(String[] args) {
        for (int run = 1; run <= 600; run++) {
            state = run;
            Check.at("rough run " + run);
            SideVersions x = new SideVersions();
            int calls = run % 8 == 0 ? 0 : tellSome(x);
            while (calls < LAST_CALL - 50) {
                calls += someCalls(x);
            }
        }
        Check.finish();
    }

    /** Makes a call, or now and then those that tell a text; returns how many. */
    private static int someCalls(SideVersions x) {
        if (next(300) == 0) {
            return tellSome(x);
        }
        long answer = call(x);
        Check.due("an answer is a code or not negative", answer >= -5 || answer == -9 ? 1 : 0, 1);
        return 1;
    }

    private static int tellSome(SideVersions x) {
        String text = TEXTS[next(TEXTS.length)];
        x.clear();
        Check.type(x, text);
        x.tells();
        return text.length() + 2;
    }

    private static long call(SideVersions x) {
        int a = wild(), b = wild(), c = wild(), d = wild(), e = wild(), f = wild();
        long value = next(2) == 0 ? (long) a << 32 | b : a;
        switch (next(26)) {
            case 0: return x.type(a);
            case 1: return x.clear();
            case 2: return Math.max(x.tells(), 0);
            case 3: return x.blinds(a);
            case 4: return x.rules(a, b);
            case 5: return x.row(a, b, c);
            // a value may be any long
            case 6: return d == 3 ? x.sibling(a, b, c, d) & 0 : x.sibling(a, b, c, d);
            case 7: return x.context(a, b);
            case 8: return d == 0 ? x.write(a, b, c, d) & 0 : x.write(a, b, c, d);
            case 9: return x.ahead(a, b, c, d, e, f);
            case 10: return x.alike(a, b, c);
            case 11: return x.behind(a, b);
            case 12: return x.spread(a, b);
            case 13: return x.rule(a, b);
            case 14: return x.tally(a, b);
            case 15: return x.count(a);
            case 16: case 17: return x.merges(a, b);
            case 18: case 19: return x.reads(a, b, c);
            case 20: case 21: return x.sends(a, b, c);
            default: return x.writes(a, b, c, next(2), value);
        }
    }
}
