/** For every argument of every method: all values of its range are taken, and those outside are BAD. */
public final class RangesTest {
    /** A call on a store with one argument left open. */
    private interface Call {
        long on(SideVersions x, int value);
    }

    // some of them come back into a range if they are multiplied or shifted and wrap around
    private static final int[] FAR = {Integer.MIN_VALUE, Integer.MIN_VALUE + 1, -107374182, -1000, -9, -2, 9, 41, 42, 64,
        100, 255, 256, 257, 1 << 16, 107374182, 107374183, 1 << 28, 1 << 29, 1 << 30, Integer.MAX_VALUE - 1,
        Integer.MAX_VALUE};
    private static final int CLIENTS = 4;

    private final int sites;
    private final int keys;

    private RangesTest(int sites, int keys) {
        this.sites = sites;
        this.keys = keys;
    }

    public static void main(String[] args) {
        for (int sites = 2; sites <= 4; sites++) {
            for (int keys = 1; keys <= 4; keys++) {
                RangesTest test = new RangesTest(sites, keys);
                test.deeds();
                test.sendsToTheSameSite();
                test.questionsOfSites();
                test.questionsOfWrites();
                test.otherQuestions();
            }
        }
        withoutKeys();
        letters();
        values();
        Check.finish();
    }

    /** Two writes of each key at each site, and each client has read something. */
    private SideVersions filled() {
        StringBuilder text = new StringBuilder("sites " + sites + ";");
        for (int key = 0; key < keys; key++) {
            text.append(kind(key) == 0 ? "whole;" : "bits;");
        }
        SideVersions x = Check.store(text.toString());
        for (int key = 0; key < keys; key++) {
            for (int site = 0; site < sites; site++) {
                x.writes(0, site, key, kind(key), 6L);
                x.writes(0, site, key, kind(key), 3L);
            }
        }
        for (int client = 0; client < CLIENTS; client++) {
            x.reads(client, client % sites, client % keys);
        }
        x.rules(keys - 1, 0);
        return x;
    }

    private static int kind(int key) {
        return key % 2;
    }

    private void inside(String name, int value, Call call) {
        Check.due(name + " = " + value + " is taken", call.on(filled(), value) == Check.BAD ? 0 : 1, 1);
    }

    private void outside(String name, int value, Call call) {
        Check.due(name + " = " + value, call.on(filled(), value), Check.BAD);
    }

    private void range(String name, int low, int high, Call call) {
        for (int value = low; value <= high; value++) {
            inside(name, value, call);
        }
        outside(name, low - 1, call);
        outside(name, high + 1, call);
        for (int value : FAR) {
            if (value < low || value > high) {
                outside(name, value, call);
            }
        }
    }

    private void from(String name, int low, Call call) {
        for (int value = low; value <= low + 8; value++) {
            inside(name, value, call);
        }
        inside(name, Integer.MAX_VALUE, call);
        outside(name, low - 1, call);
        outside(name, Integer.MIN_VALUE, call);
    }

    private void at(String promise) {
        Check.at(promise + ", with " + sites + " sites and " + keys + " keys");
    }

    private void deeds() {
        at("promise 5: no such client, site or key");
        range("reads: client", 0, 3, (x, v) -> x.reads(v, 0, 0));
        range("reads: site", 0, sites - 1, (x, v) -> x.reads(0, v, 0));
        range("reads: key", 0, keys - 1, (x, v) -> x.reads(0, 0, v));
        at("promise 6: no such client, site or key, or kind is not 0 or 1");
        range("writes: client", 0, 3, (x, v) -> x.writes(v, 0, 0, 0, 1L));
        range("writes: site", 0, sites - 1, (x, v) -> x.writes(0, v, 0, 0, 1L));
        range("writes: key", 0, keys - 1, (x, v) -> x.writes(0, 0, v, 0, 1L));
        range("writes: kind", 0, 1, (x, v) -> x.writes(0, 0, 0, v, 1L));
        at("promise 7: no such client");
        range("blinds: client", 0, 3, (x, v) -> x.blinds(v));
        at("promise 8: no such site or key");
        range("sends: from", 0, sites - 1, (x, v) -> x.sends(v, v == 0 ? 1 : 0, 0));
        range("sends: to", 0, sites - 1, (x, v) -> x.sends(v == 0 ? 1 : 0, v, 0));
        range("sends: key", 0, keys - 1, (x, v) -> x.sends(0, 1, v));
        at("promise 9: no such site or key");
        range("merges: site", 0, sites - 1, (x, v) -> x.merges(v, keys - 1));
        range("merges: key", 0, keys - 1, (x, v) -> x.merges(0, v));
        at("promise 10: no such key, or rule is out of range");
        range("rules: key", 0, keys - 1, (x, v) -> x.rules(v, 0));
        range("rules: rule", 0, 4, (x, v) -> x.rules(0, v));
    }

    private void sendsToTheSameSite() {
        at("promise 8: both sites are the same");
        for (int site = 0; site < sites; site++) {
            for (int key = 0; key < keys; key++) {
                Check.due("sends(" + site + ", " + site + ", " + key + ")", filled().sends(site, site, key), Check.BAD);
            }
        }
    }

    private void questionsOfSites() {
        at("promise 11: no such site or key");
        range("row: site", 0, sites - 1, (x, v) -> x.row(v, 0, 0));
        range("row: key", 0, keys - 1, (x, v) -> x.row(0, v, 0));
        range("row: s", 0, sites - 1, (x, v) -> x.row(0, 0, v));
        at("promise 12: no such site or key, i is negative or what is not 0 to 3");
        range("sibling: site", 0, sites - 1, (x, v) -> x.sibling(v, 0, 0, 3));
        range("sibling: key", 0, keys - 1, (x, v) -> x.sibling(0, v, 0, 3));
        from("sibling: i", 0, (x, v) -> x.sibling(0, 0, v, 3));
        range("sibling: what", 0, 3, (x, v) -> x.sibling(0, 0, 0, v));
        range("sibling: what, of none", 0, 3, (x, v) -> x.sibling(0, 0, 2, v));
        at("promise 16: no such site or key");
        range("alike: a", 0, sites - 1, (x, v) -> x.alike(v, 0, 0));
        range("alike: b", 0, sites - 1, (x, v) -> x.alike(0, v, 0));
        range("alike: both", 0, sites - 1, (x, v) -> x.alike(v, v, 0));
        range("alike: key", 0, keys - 1, (x, v) -> x.alike(0, 1, v));
        range("alike: key, of one site", 0, keys - 1, (x, v) -> x.alike(1, 1, v));
        at("promise 17: no such site or key");
        range("behind: site", 0, sites - 1, (x, v) -> x.behind(v, 0));
        range("behind: key", 0, keys - 1, (x, v) -> x.behind(0, v));
    }

    private void questionsOfWrites() {
        at("promise 14: no such write or what is not 0 to 7");
        range("write: key", 0, keys - 1, (x, v) -> x.write(v, 0, 1, 0));
        range("write: site", 0, sites - 1, (x, v) -> x.write(0, v, 1, 0));
        range("write: n", 1, 2, (x, v) -> x.write(0, 0, v, 0));
        range("write: n at the last site", 1, 2, (x, v) -> x.write(keys - 1, sites - 1, v, 0));
        range("write: what", 0, 7, (x, v) -> x.write(0, 0, 1, v));
        at("promise 15: no such key or write or way is not 0 or 1");
        range("ahead: key", 0, keys - 1, (x, v) -> x.ahead(v, 0, 1, 0, 2, 0));
        range("ahead: a", 0, sites - 1, (x, v) -> x.ahead(0, v, 1, 0, 2, 0));
        range("ahead: m", 1, 2, (x, v) -> x.ahead(0, 0, v, 0, 2, 0));
        range("ahead: b", 0, sites - 1, (x, v) -> x.ahead(0, 0, 1, v, 2, 0));
        range("ahead: n", 1, 2, (x, v) -> x.ahead(0, 0, 1, 0, v, 0));
        range("ahead: way", 0, 1, (x, v) -> x.ahead(0, 0, 1, 0, 2, v));
    }

    private void otherQuestions() {
        at("promise 13: no such client or site or what is less than -1");
        range("context: client", 0, 3, (x, v) -> x.context(v, -1));
        contexts("context: what", (x, v) -> x.context(0, v));
        contexts("context: what, of a blind client", RangesTest::contextOfBlind);
        at("promise 18: no such key or what is not 0 or 1");
        range("spread: key", 0, keys - 1, (x, v) -> x.spread(v, 0));
        range("spread: what", 0, 1, (x, v) -> x.spread(0, v));
        at("promise 19: i is negative or what is not 0 or 1");
        from("rule: i", 0, (x, v) -> x.rule(v, 1));
        range("rule: what", 0, 1, (x, v) -> x.rule(0, v));
        range("rule: what, of none", 0, 1, (x, v) -> x.rule(1, v));
        at("promise 20: no such key or what is not 0 to 6");
        range("tally: key", 0, keys - 1, (x, v) -> x.tally(v, 0));
        range("tally: what", 0, 6, (x, v) -> x.tally(0, v));
        at("promise 21: what is not 0 to 5");
        range("count: what", 0, 5, (x, v) -> x.count(v));
    }

    private void contexts(String name, Call call) {
        inside(name, -1, call);
        outside(name, -2, call);
        for (int s = 0; s < 4; s++) {
            if (s < sites) {
                inside(name, s, call);
                inside(name, 4 + s, call);
            } else {
                outside(name, s, call);
                outside(name, 4 + s, call);
            }
        }
        outside(name, 8, call);
        for (int value : FAR) {
            outside(name, value, call);
        }
    }

    private static long contextOfBlind(SideVersions x, int what) {
        x.blinds(0);
        return x.context(0, what);
    }

    private static void withoutKeys() {
        Check.at("at first there are no keys");
        for (int key = -1; key <= 4; key++) {
            String of = " of key " + key;
            SideVersions x = new SideVersions();
            Check.due("reads" + of, x.reads(0, 0, key), Check.BAD);
            Check.due("writes" + of, x.writes(0, 0, key, 0, 1L), Check.BAD);
            Check.due("sends" + of, x.sends(0, 1, key), Check.BAD);
            Check.due("merges" + of, x.merges(0, key), Check.BAD);
            Check.due("rules" + of, x.rules(key, 0), Check.BAD);
            Check.due("row" + of, x.row(0, key, 0), Check.BAD);
            Check.due("sibling" + of, x.sibling(0, key, 0, 0), Check.BAD);
            Check.due("write" + of, x.write(key, 0, 1, 0), Check.BAD);
            Check.due("ahead" + of, x.ahead(key, 0, 1, 0, 1, 0), Check.BAD);
            Check.due("alike" + of, x.alike(0, 1, key), Check.BAD);
            Check.due("behind" + of, x.behind(0, key), Check.BAD);
            Check.due("spread" + of, x.spread(key, 0), Check.BAD);
            Check.due("spread, 1" + of, x.spread(key, 1), Check.BAD);
            Check.due("tally" + of, x.tally(key, 0), Check.BAD);
        }
    }

    private static void letters() {
        Check.at("promise 2: letter is out of range");
        for (int letter = 0; letter <= 255; letter++) {
            Check.due("type(" + letter + ")", new SideVersions().type(letter), 1);
        }
        for (int letter : new int[] {Integer.MIN_VALUE, -256, -255, -1, 256, 257, 1 << 16, Integer.MAX_VALUE}) {
            SideVersions x = new SideVersions();
            Check.due("type(" + letter + ")", x.type(letter), Check.BAD);
            Check.due("count(5)", x.count(5), 0);
        }
    }

    private static long written(String key, int kind, long value) {
        SideVersions x = Check.store(key);
        long answer = x.writes(0, 0, 0, kind, value);
        if (answer == 1) {
            Check.due("write of " + value, x.write(0, 0, 1, 0), value);
            Check.due("sibling of " + value, x.sibling(0, 0, 0, 3), value);
        }
        return answer;
    }

    private static void values() {
        Check.at("promise 6: values of whole keys are longs");
        long[] longs = {Long.MIN_VALUE, Long.MIN_VALUE + 1, -(1L << 32), -9, -5, -2, -1, 0, 1, 1L << 32, Long.MAX_VALUE};
        for (long value : longs) {
            Check.due("writes of " + value, written("whole;", 0, value), 1);
        }
        Check.at("promise 6: values of bits keys are not negative");
        for (long value : longs) {
            Check.due("writes of " + value, written("bits;", 1, value), value < 0 ? Check.BAD : 1);
        }
    }
}
