/** Promises 5 to 10: reading, writing, sending and merging. */
public final class DeedsTest {
    private static final long LEAST = Long.MIN_VALUE;
    private static final long GREATEST = Long.MAX_VALUE;

    public static void main(String[] args) {
        reads();
        readsPrunes();
        writes();
        writesAndContexts();
        writesFalseSiblings();
        writesErrors();
        blinds();
        sends();
        sendsDrops();
        merges();
        mergesErrors();
        mergesWhole();
        mergesAfterMerges();
        mergesBits();
        mergesInStampOrder();
        rules();
        Check.finish();
    }

    private static void reads() {
        Check.at("promise 5");
        SideVersions x = Check.store("whole;bits;");
        Check.due("reads(0, 0, 0) of nothing", x.reads(0, 0, 0), 0);
        Check.due("context(0, -1)", x.context(0, -1), 0);
        Check.due("context(0, 0)", x.context(0, 0), 0);
        x.writes(1, 2, 1, 1, 5L);
        x.writes(1, 2, 1, 1, 6L);
        Check.due("write(1, 2, 1, 2) before", x.write(1, 2, 1, 2), 0);
        Check.due("reads(0, 2, 1)", x.reads(0, 2, 1), 2);
        Check.due("context(0, -1)", x.context(0, -1), 1);
        Check.due("context(0, 2)", x.context(0, 2), 2);
        Check.due("context(0, 6)", x.context(0, 6), 2);
        Check.due("context(0, 0)", x.context(0, 0), 0);
        Check.due("write(1, 2, 1, 2)", x.write(1, 2, 1, 2), 1);
        Check.due("write(1, 2, 2, 2)", x.write(1, 2, 2, 2), 1);
        Check.due("context(1, -1) of another", x.context(1, -1), Check.NONE);
        // the context is what stood there when it was read
        x.writes(1, 2, 1, 1, 7L);
        Check.due("context(0, 2) after a write", x.context(0, 2), 2);
        Check.due("write(1, 2, 3, 2) unread", x.write(1, 2, 3, 2), 0);
        // what has been seen once stays so
        x.reads(2, 0, 1);
        Check.due("write(1, 2, 1, 2) after a reading elsewhere", x.write(1, 2, 1, 2), 1);
        Check.due("reads(-1, 0, 0)", x.reads(-1, 0, 0), Check.BAD);
        Check.due("reads(4, 0, 0)", x.reads(4, 0, 0), Check.BAD);
        Check.due("reads(0, -1, 0)", x.reads(0, -1, 0), Check.BAD);
        Check.due("reads(0, 3, 0)", x.reads(0, 3, 0), Check.BAD);
        Check.due("reads(0, 0, -1)", x.reads(0, 0, -1), Check.BAD);
        Check.due("reads(0, 0, 2)", x.reads(0, 0, 2), Check.BAD);
        Check.due("context(0, -1) after wrong calls", x.context(0, -1), 1);
        Check.due("reads(3, 1, 0)", x.reads(3, 1, 0), 0);
    }

    /** Site 3 has a row with all numbers above 0; the stamps of the dots are 2 (1), 3 (0), 5 (2), 4 (3). */
    private static SideVersions fourSites(int limit) {
        SideVersions x = Check.store("sites 4;limit " + limit + ";whole;");
        x.writes(0, 0, 0, 0, 1L);
        x.writes(0, 1, 0, 0, 1L);
        x.writes(0, 0, 0, 0, 1L);
        x.writes(0, 3, 0, 0, 1L);
        x.writes(0, 2, 0, 0, 1L);
        x.sends(0, 3, 0);
        x.sends(1, 3, 0);
        x.sends(2, 3, 0);
        x.reads(0, 3, 0);
        return x;
    }

    private static void tells(SideVersions x, int client, int a, int b, int c, int d) {
        Check.due("context(" + client + ", 4)", x.context(client, 4), a);
        Check.due("context(" + client + ", 5)", x.context(client, 5), b);
        Check.due("context(" + client + ", 6)", x.context(client, 6), c);
        Check.due("context(" + client + ", 7)", x.context(client, 7), d);
    }

    private static void readsPrunes() {
        Check.at("promise 5, pruning");
        tells(fourSites(4), 0, 2, 1, 1, 1);
        tells(fourSites(3), 0, 2, 0, 1, 1);
        tells(fourSites(2), 0, 0, 0, 1, 1);
        tells(fourSites(1), 0, 0, 0, 1, 0);
        SideVersions x = fourSites(1);
        Check.due("context(0, 0)", x.context(0, 0), 2);
        Check.due("context(0, 1)", x.context(0, 1), 1);
        Check.due("context(0, 2)", x.context(0, 2), 1);
        Check.due("context(0, 3)", x.context(0, 3), 1);
        Check.due("row(3, 0, 0)", x.row(3, 0, 0), 2);
        SideVersions y = Check.store("sites 4;limit 2;whole;");
        y.writes(0, 3, 0, 0, 1L);
        y.writes(0, 1, 0, 0, 1L);
        y.sends(1, 3, 0);
        y.reads(2, 3, 0);
        tells(y, 2, 0, 1, 0, 1);
    }

    private static void writes() {
        Check.at("promise 6");
        SideVersions x = Check.store("bound 2;whole;bits;");
        Check.due("writes(0, 1, 0, 0, -5)", x.writes(0, 1, 0, 0, -5L), 1);
        Check.due("writes(0, 1, 0, 0, LEAST)", x.writes(0, 1, 0, 0, LEAST), 2);
        Check.due("writes(3, 2, 0, 0, GREATEST)", x.writes(3, 2, 0, 0, GREATEST), 1);
        Check.due("writes(3, 2, 1, 1, GREATEST)", x.writes(3, 2, 1, 1, GREATEST), 1);
        Check.due("writes(3, 2, 1, 1, 0)", x.writes(3, 2, 1, 1, 0L), 2);
        Check.due("write(0, 1, 1, 0)", x.write(0, 1, 1, 0), -5);
        Check.due("write(0, 1, 2, 0)", x.write(0, 1, 2, 0), LEAST);
        Check.due("write(0, 2, 1, 0)", x.write(0, 2, 1, 0), GREATEST);
        Check.due("write(1, 2, 1, 1)", x.write(1, 2, 1, 1), 4);
        Check.due("write(1, 2, 2, 1)", x.write(1, 2, 2, 1), 5);
        Check.due("row(1, 0, 1)", x.row(1, 0, 1), 2);
        Check.due("row(1, 0, 2)", x.row(1, 0, 2), 0);
        Check.due("row(2, 1, 2)", x.row(2, 1, 2), 2);
        // the bound drops the oldest, seen or not
        Check.due("writes(0, 1, 0, 0, 3)", x.writes(0, 1, 0, 0, 3L), 3);
        Check.due("sibling(1, 0, 0, 1)", x.sibling(1, 0, 0, 1), 2);
        Check.due("sibling(1, 0, 1, 1)", x.sibling(1, 0, 1, 1), 3);
        Check.due("sibling(1, 0, 2, 1)", x.sibling(1, 0, 2, 1), Check.NONE);
        Check.due("write(0, 1, 1, 3)", x.write(0, 1, 1, 3), 1);
        Check.due("write(0, 1, 2, 3)", x.write(0, 1, 2, 3), 0);
        Check.due("tally(0, 4)", x.tally(0, 4), 1);
    }

    private static void writesAndContexts() {
        Check.at("promise 6, contexts");
        SideVersions x = Check.store("whole;whole;");
        x.writes(0, 0, 0, 0, 1L);
        x.writes(0, 1, 0, 0, 2L);
        x.writes(0, 1, 0, 0, 3L);
        x.sends(1, 2, 0);
        x.sends(0, 2, 0);
        Check.due("reads(0, 2, 0)", x.reads(0, 2, 0), 3);
        // a context of another key is of no use here, and it stays
        Check.due("writes(0, 1, 1, 0, 9)", x.writes(0, 1, 1, 0, 9L), 1);
        Check.due("context(0, -1)", x.context(0, -1), 0);
        Check.due("ahead(1, 1, 1, 1, 1, 0)", x.ahead(1, 1, 1, 1, 1, 0), 0);
        Check.due("row(1, 1, 0)", x.row(1, 1, 0), 0);
        // at site 0 it replaces what is there and takes over what is told of site 1
        Check.due("writes(0, 0, 0, 0, 4)", x.writes(0, 0, 0, 0, 4L), 2);
        Check.due("context(0, -1)", x.context(0, -1), Check.NONE);
        Check.due("row(0, 0, 0)", x.row(0, 0, 0), 2);
        Check.due("row(0, 0, 1)", x.row(0, 0, 1), 2);
        Check.due("row(0, 0, 2)", x.row(0, 0, 2), 0);
        Check.due("sibling(0, 0, 0, 1)", x.sibling(0, 0, 0, 1), 2);
        Check.due("sibling(0, 0, 1, 1)", x.sibling(0, 0, 1, 1), Check.NONE);
        Check.due("write(0, 0, 1, 4)", x.write(0, 0, 1, 4), 1);
        Check.due("write(0, 1, 1, 4) is no sibling there", x.write(0, 1, 1, 4), 0);
        Check.due("tally(0, 2)", x.tally(0, 2), 1);
        Check.due("ahead(0, 1, 2, 0, 2, 0)", x.ahead(0, 1, 2, 0, 2, 0), 1);
        Check.due("ahead(0, 1, 2, 0, 2, 1)", x.ahead(0, 1, 2, 0, 2, 1), 1);
        // a write made since the reading stays beside the new one
        x.reads(1, 1, 0);
        x.writes(2, 1, 0, 0, 5L);
        Check.due("writes(1, 1, 0, 0, 6)", x.writes(1, 1, 0, 0, 6L), 4);
        Check.due("sibling(1, 0, 0, 1)", x.sibling(1, 0, 0, 1), 3);
        Check.due("sibling(1, 0, 1, 1)", x.sibling(1, 0, 1, 1), 4);
        Check.due("sibling(1, 0, 2, 1)", x.sibling(1, 0, 2, 1), Check.NONE);
        Check.due("tally(0, 2)", x.tally(0, 2), 3);
        Check.due("write(0, 1, 1, 6)", x.write(0, 1, 1, 6), 4);
        // the row that is told may be behind that of the site, whose numbers stay then
        x.reads(3, 0, 0);
        x.sends(1, 0, 0);
        Check.due("row(0, 0, 1)", x.row(0, 0, 1), 4);
        x.writes(3, 0, 0, 0, 7L);
        Check.due("row(0, 0, 1) after", x.row(0, 0, 1), 4);
    }

    private static void writesFalseSiblings() {
        Check.at("promise 6, false siblings");
        SideVersions x = Check.store("sites 4;limit 1;bound 6;whole;");
        x.writes(0, 0, 0, 0, 1L);
        x.writes(0, 1, 0, 0, 2L);
        x.writes(0, 2, 0, 0, 3L);
        x.sends(0, 2, 0);
        x.sends(1, 2, 0);
        Check.due("reads(0, 2, 0)", x.reads(0, 2, 0), 3);
        Check.due("writes(0, 2, 0, 0, 4)", x.writes(0, 2, 0, 0, 4L), 2);
        Check.due("tally(0, 6)", x.tally(0, 6), 2);
        Check.due("sibling(2, 0, 0, 0)", x.sibling(2, 0, 0, 0), 0);
        Check.due("sibling(2, 0, 1, 0)", x.sibling(2, 0, 1, 0), 1);
        Check.due("sibling(2, 0, 2, 1)", x.sibling(2, 0, 2, 1), 2);
        Check.due("sibling(2, 0, 3, 0)", x.sibling(2, 0, 3, 0), Check.NONE);
        Check.due("ahead(0, 0, 1, 2, 2, 0)", x.ahead(0, 0, 1, 2, 2, 0), 0);
        Check.due("ahead(0, 0, 1, 2, 2, 1)", x.ahead(0, 0, 1, 2, 2, 1), 1);
        Check.due("tally(0, 2)", x.tally(0, 2), 1);
        // the same siblings count again at the next write, now with the bound
        x.reads(1, 2, 0);
        x.writes(1, 2, 0, 0, 5L);
        Check.due("tally(0, 6) again", x.tally(0, 6), 4);
        // a blind write knows nothing, so nothing counts
        x.writes(1, 2, 0, 0, 6L);
        Check.due("tally(0, 6) after a blind write", x.tally(0, 6), 4);
        // a sibling that is dropped by this very write has counted before
        SideVersions y = Check.store("limit 1;bound 2;whole;");
        y.writes(0, 0, 0, 0, 1L);
        y.writes(0, 1, 0, 0, 2L);
        y.sends(0, 1, 0);
        y.writes(3, 2, 0, 0, 1L);
        y.reads(0, 1, 0);
        y.sends(2, 1, 0);
        Check.due("write(0, 0, 1, 3)", y.write(0, 0, 1, 3), 1);
        y.reads(1, 1, 0);
        y.writes(1, 1, 0, 0, 9L);
        Check.due("tally(0, 6)", y.tally(0, 6), 1);
        Check.due("tally(0, 2)", y.tally(0, 2), 1);
    }

    private static void writesErrors() {
        Check.at("promise 6, errors");
        SideVersions x = Check.store("sites 2;whole;bits;");
        Check.due("writes(-1, 0, 0, 0, 1)", x.writes(-1, 0, 0, 0, 1L), Check.BAD);
        Check.due("writes(4, 0, 0, 0, 1)", x.writes(4, 0, 0, 0, 1L), Check.BAD);
        Check.due("writes(0, -1, 0, 0, 1)", x.writes(0, -1, 0, 0, 1L), Check.BAD);
        Check.due("writes(0, 2, 0, 0, 1)", x.writes(0, 2, 0, 0, 1L), Check.BAD);
        Check.due("writes(0, 0, -1, 0, 1)", x.writes(0, 0, -1, 0, 1L), Check.BAD);
        Check.due("writes(0, 0, 2, 0, 1)", x.writes(0, 0, 2, 0, 1L), Check.BAD);
        Check.due("writes(0, 0, 0, -1, 1)", x.writes(0, 0, 0, -1, 1L), Check.BAD);
        Check.due("writes(0, 0, 0, 2, 1)", x.writes(0, 0, 0, 2, 1L), Check.BAD);
        Check.due("writes(0, 0, 1, 1, -1)", x.writes(0, 0, 1, 1, -1L), Check.BAD);
        Check.due("writes(0, 0, 0, 1, -1)", x.writes(0, 0, 0, 1, -1L), Check.BAD);
        Check.due("writes(0, 0, 0, 1, 1)", x.writes(0, 0, 0, 1, 1L), Check.UNLIKE);
        Check.due("writes(0, 0, 1, 0, -1)", x.writes(0, 0, 1, 0, -1L), Check.UNLIKE);
        Check.due("count(4)", x.count(4), 0);
        for (int n = 1; n <= 40; n++) {
            Check.due("writes(0, 1, 1, 1, n)", x.writes(0, 1, 1, 1, n), n);
        }
        Check.due("the 41st", x.writes(0, 1, 1, 1, 1L), Check.FULL);
        Check.due("the 41st, of another kind", x.writes(0, 1, 1, 0, 1L), Check.FULL);
        Check.due("the 41st, of no kind", x.writes(0, 1, 1, 2, 1L), Check.BAD);
        Check.due("the 41st, negative", x.writes(0, 1, 1, 1, -1L), Check.BAD);
        Check.due("at another site", x.writes(0, 0, 1, 1, 1L), 1);
        Check.due("of another key", x.writes(0, 1, 0, 0, 1L), 1);
        Check.due("row(1, 1, 1)", x.row(1, 1, 1), 40);
        x.reads(0, 1, 1);
        Check.due("with a context", x.writes(0, 1, 1, 1, 1L), Check.FULL);
        Check.due("which stays", x.context(0, -1), 1);
        Check.due("with a context, of another kind", x.writes(0, 0, 1, 0, 1L), Check.UNLIKE);
        Check.due("which stays", x.context(0, -1), 1);
        Check.due("count(4)", x.count(4), 42);
        Check.due("write(1, 1, 40, 0)", x.write(1, 1, 40, 0), 40);
        Check.due("write(1, 1, 41, 0)", x.write(1, 1, 41, 0), Check.BAD);
    }

    private static void blinds() {
        Check.at("promise 7");
        SideVersions x = Check.store("whole;");
        for (int client = 0; client < 4; client++) {
            Check.due("blinds(client)", x.blinds(client), 0);
            x.reads(client, 0, 0);
        }
        Check.due("blinds(2)", x.blinds(2), 1);
        Check.due("blinds(2) again", x.blinds(2), 0);
        Check.due("context(2, -1)", x.context(2, -1), Check.NONE);
        Check.due("context(1, -1)", x.context(1, -1), 0);
        Check.due("blinds(-1)", x.blinds(-1), Check.BAD);
        Check.due("blinds(4)", x.blinds(4), Check.BAD);
        // a blind client replaces nothing
        x.writes(0, 0, 0, 0, 1L);
        x.reads(0, 0, 0);
        Check.due("blinds(0)", x.blinds(0), 1);
        x.writes(0, 0, 0, 0, 2L);
        Check.due("reads(0, 0, 0)", x.reads(0, 0, 0), 2);
        x.writes(0, 0, 0, 0, 3L);
        Check.due("blinds(0) after a write", x.blinds(0), 0);
    }

    private static void sends() {
        Check.at("promise 8");
        SideVersions x = Check.store("whole;whole;");
        Check.due("sends(0, 1, 0) of nothing", x.sends(0, 1, 0), 0);
        x.writes(0, 0, 0, 0, 1L);
        x.writes(0, 0, 0, 0, 2L);
        Check.due("sends(0, 1, 0)", x.sends(0, 1, 0), 2);
        Check.due("sends(0, 1, 0) again", x.sends(0, 1, 0), 2);
        Check.due("row(1, 0, 0)", x.row(1, 0, 0), 2);
        Check.due("row(1, 1, 0)", x.row(1, 1, 0), 0);
        Check.due("write(0, 0, 1, 2) is not seen", x.write(0, 0, 1, 2), 0);
        // site 1 replaces both; what it has not any more goes from site 0 too, but counts not as replaced again
        x.reads(0, 1, 0);
        x.writes(0, 1, 0, 0, 3L);
        Check.due("sends(0, 1, 0) brings nothing back", x.sends(0, 1, 0), 1);
        Check.due("row(0, 0, 1) is untouched", x.row(0, 0, 1), 0);
        x.writes(0, 0, 0, 0, 4L);
        Check.due("sends(1, 0, 0)", x.sends(1, 0, 0), 2);
        Check.due("sibling(0, 0, 0, 3)", x.sibling(0, 0, 0, 3), 4);
        Check.due("sibling(0, 0, 1, 3)", x.sibling(0, 0, 1, 3), 3);
        Check.due("row(0, 0, 0)", x.row(0, 0, 0), 3);
        Check.due("row(0, 0, 1)", x.row(0, 0, 1), 1);
        Check.due("row(1, 0, 0)", x.row(1, 0, 0), 2);
        Check.due("tally(0, 2)", x.tally(0, 2), 2);
        Check.due("sends(-1, 0, 0)", x.sends(-1, 0, 0), Check.BAD);
        Check.due("sends(3, 0, 0)", x.sends(3, 0, 0), Check.BAD);
        Check.due("sends(0, -1, 0)", x.sends(0, -1, 0), Check.BAD);
        Check.due("sends(0, 3, 0)", x.sends(0, 3, 0), Check.BAD);
        Check.due("sends(0, 0, 0)", x.sends(0, 0, 0), Check.BAD);
        Check.due("sends(0, 1, -1)", x.sends(0, 1, -1), Check.BAD);
        Check.due("sends(0, 1, 2)", x.sends(0, 1, 2), Check.BAD);
    }

    private static void sendsDrops() {
        Check.at("promise 8, the bound");
        SideVersions x = Check.store("bound 3;whole;");
        x.writes(0, 0, 0, 0, 1L);
        x.writes(0, 1, 0, 0, 2L);
        x.writes(0, 0, 0, 0, 3L);
        x.writes(0, 1, 0, 0, 4L);
        x.writes(0, 0, 0, 0, 5L);
        Check.due("sends(0, 1, 0)", x.sends(0, 1, 0), 3);
        Check.due("sibling(1, 0, 0, 2)", x.sibling(1, 0, 0, 2), 3);
        Check.due("sibling(1, 0, 1, 2)", x.sibling(1, 0, 1, 2), 5);
        Check.due("sibling(1, 0, 2, 2)", x.sibling(1, 0, 2, 2), 4);
        Check.due("write(0, 0, 1, 3)", x.write(0, 0, 1, 3), 1);
        Check.due("write(0, 0, 1, 7) at site 0 still", x.write(0, 0, 1, 7), 0);
        Check.due("write(0, 1, 1, 3)", x.write(0, 1, 1, 3), 1);
        Check.due("write(0, 1, 1, 7)", x.write(0, 1, 1, 7), 1);
        Check.due("tally(0, 4)", x.tally(0, 4), 2);
        Check.due("tally(0, 5)", x.tally(0, 5), 1);
        Check.due("row(1, 0, 0)", x.row(1, 0, 0), 3);
        // going by stamps, a write of the site itself may be the one that is dropped
        Check.due("sends(1, 0, 0)", x.sends(1, 0, 0), 3);
        Check.due("write(0, 0, 1, 6)", x.write(0, 0, 1, 6), 0);
        Check.due("alike(0, 1, 0)", x.alike(0, 1, 0), 1);
    }

    private static void merges() {
        Check.at("promise 9");
        SideVersions x = Check.store("whole;whole;");
        x.writes(0, 0, 0, 0, 1L);
        x.writes(0, 1, 0, 0, 20L);
        x.writes(0, 1, 0, 0, 3L);
        x.sends(0, 1, 0);
        x.rules(0, 0);
        x.reads(2, 1, 0);
        Check.due("merges(1, 0)", x.merges(1, 0), 3);
        Check.due("sibling(1, 0, 0, 0)", x.sibling(1, 0, 0, 0), 1);
        Check.due("sibling(1, 0, 0, 1)", x.sibling(1, 0, 0, 1), 3);
        Check.due("sibling(1, 0, 0, 2)", x.sibling(1, 0, 0, 2), 4);
        Check.due("sibling(1, 0, 0, 3)", x.sibling(1, 0, 0, 3), 20);
        Check.due("sibling(1, 0, 1, 0)", x.sibling(1, 0, 1, 0), Check.NONE);
        Check.due("row(1, 0, 0)", x.row(1, 0, 0), 1);
        Check.due("row(1, 0, 1)", x.row(1, 0, 1), 3);
        for (int way = 0; way < 2; way++) {
            Check.due("ahead(0, 0, 1, 1, 3, way)", x.ahead(0, 0, 1, 1, 3, way), 1);
            Check.due("ahead(0, 1, 2, 1, 3, way)", x.ahead(0, 1, 2, 1, 3, way), 1);
            Check.due("ahead(0, 1, 3, 1, 3, way)", x.ahead(0, 1, 3, 1, 3, way), 0);
        }
        Check.due("write(0, 0, 1, 2)", x.write(0, 0, 1, 2), 1);
        Check.due("write(0, 0, 1, 5)", x.write(0, 0, 1, 5), 1);
        Check.due("write(0, 0, 1, 6) at site 0 still", x.write(0, 0, 1, 6), 1);
        Check.due("write(0, 0, 1, 4)", x.write(0, 0, 1, 4), 0);
        Check.due("write(0, 1, 3, 2) of the new one", x.write(0, 1, 3, 2), 0);
        Check.due("write(0, 1, 3, 5) of the new one", x.write(0, 1, 3, 5), 0);
        Check.due("tally(0, 1)", x.tally(0, 1), 4);
        Check.due("tally(0, 2)", x.tally(0, 2), 0);
        Check.due("tally(0, 3)", x.tally(0, 3), 3);
        Check.due("tally(0, 6)", x.tally(0, 6), 0);
        Check.due("context(2, 1) stays", x.context(2, 1), 2);
        Check.due("merges(1, 0) of one alone", x.merges(1, 0), Check.STATE);
    }

    private static void mergesErrors() {
        Check.at("promise 9, errors");
        SideVersions x = Check.store("bound 6;whole;");
        Check.due("merges(-1, 0)", x.merges(-1, 0), Check.BAD);
        Check.due("merges(3, 0)", x.merges(3, 0), Check.BAD);
        Check.due("merges(0, -1)", x.merges(0, -1), Check.BAD);
        Check.due("merges(0, 1)", x.merges(0, 1), Check.BAD);
        x.rules(0, 2);
        Check.due("merges(0, 0) of none", x.merges(0, 0), Check.STATE);
        x.writes(0, 0, 0, 0, GREATEST);
        Check.due("merges(0, 0) of one", x.merges(0, 0), Check.STATE);
        x.writes(0, 0, 0, 0, 1L);
        Check.due("merges(0, 0) too great", x.merges(0, 0), Check.OVER);
        Check.due("write(0, 0, 1, 2) is not seen", x.write(0, 0, 1, 2), 0);
        Check.due("write(0, 0, 1, 5) is not merged", x.write(0, 0, 1, 5), 0);
        Check.due("count(4)", x.count(4), 2);
        Check.due("row(0, 0, 0)", x.row(0, 0, 0), 2);
        Check.due("sibling(0, 0, 1, 3)", x.sibling(0, 0, 1, 3), 1);
        for (int n = 3; n <= 40; n++) {
            x.writes(0, 0, 0, 0, GREATEST);
        }
        Check.due("merges(0, 0) with no room and too great", x.merges(0, 0), Check.FULL);
        x.rules(0, 1);
        Check.due("merges(0, 0) with no room", x.merges(0, 0), Check.FULL);
        SideVersions last = Check.store("whole;");
        for (int n = 1; n <= 39; n++) {
            last.writes(0, 0, 0, 0, n);
        }
        last.rules(0, 0);
        Check.due("merges(0, 0) with room for one", last.merges(0, 0), 40);
        SideVersions y = Check.store("whole;");
        for (int n = 1; n <= 40; n++) {
            y.writes(0, 0, 0, 0, n);
        }
        Check.due("merges(0, 0) with neither rule nor room", y.merges(0, 0), Check.STATE);
        y.rules(0, 0);
        y.reads(0, 0, 0);
        Check.due("the 41st", y.writes(0, 0, 0, 0, 1L), Check.FULL);
        y.sends(0, 1, 0);
        Check.due("merges(1, 0) elsewhere", y.merges(1, 0), 1);
        y.sends(1, 0, 0);
        Check.due("merges(0, 0) of one with no room", y.merges(0, 0), Check.STATE);
    }

    /** What merging values by a rule gives, or the error code (in which case withCode is true). */
    private static void merged(int kind, int rule, long want, long... values) {
        SideVersions x = Check.store("bound 6;" + (kind == 0 ? "whole;" : "bits;"));
        StringBuilder call = new StringBuilder("kind " + kind + ", rule " + rule + ", values");
        for (long value : values) {
            x.writes(0, 0, 0, kind, value);
            call.append(' ').append(value);
        }
        x.rules(0, rule);
        Check.due(call.toString(), x.merges(0, 0), values.length + 1);
        Check.due(call.toString(), x.sibling(0, 0, 0, 3), want);
        Check.due(call.toString(), x.write(0, 0, values.length + 1, 0), want);
    }

    private static void over(int rule, long... values) {
        SideVersions x = Check.store("bound 6;whole;");
        StringBuilder call = new StringBuilder("rule " + rule + ", values");
        for (long value : values) {
            x.writes(0, 0, 0, 0, value);
            call.append(' ').append(value);
        }
        x.rules(0, rule);
        Check.due(call.toString(), x.merges(0, 0), Check.OVER);
        Check.due(call.toString(), x.count(4), values.length);
    }

    private static void mergesWhole() {
        Check.at("promise 9, whole keys");
        merged(0, 0, 7, 3, 7, -9);
        merged(0, 0, -3, -3, -7);
        merged(0, 0, LEAST, LEAST, LEAST);
        merged(0, 0, GREATEST, 0, GREATEST, LEAST);
        merged(0, 1, -9, 3, 7, -9);
        merged(0, 1, 3, 3, 7);
        merged(0, 1, GREATEST, GREATEST, GREATEST);
        merged(0, 1, LEAST, 0, LEAST, 1);
        merged(0, 4, -9, 3, 7, -9);
        merged(0, 4, 5, 6, 5);
        merged(0, 2, 1, 3, 7, -9);
        merged(0, 2, GREATEST, GREATEST, 0);
        merged(0, 2, LEAST, LEAST, 0);
        merged(0, 2, -1, GREATEST, LEAST);
        merged(0, 2, -1, LEAST, GREATEST);
        merged(0, 2, GREATEST, GREATEST - 1, 1);
        merged(0, 2, LEAST, LEAST + 1, -1);
        merged(0, 2, 21, 1, 2, 3, 4, 5, 6);
        over(2, GREATEST, 1);
        over(2, LEAST, -1);
        over(2, LEAST, LEAST);
        over(2, GREATEST, GREATEST);
        // a partial sum is enough, though the whole sum is a long
        over(2, GREATEST, 1, -1);
        over(2, LEAST, -1, 1);
        over(2, GREATEST, GREATEST, LEAST, LEAST);
        merged(0, 2, GREATEST, GREATEST, -1, 1);
        merged(0, 3, 6, 12, 18);
        merged(0, 3, 6, -12, 18);
        merged(0, 3, 6, -12, -18);
        merged(0, 3, 1, 7, 12, 18);
        merged(0, 3, 5, 0, 5);
        merged(0, 3, 5, -5, 0);
        merged(0, 3, 1, 1, 6);
        merged(0, 3, 1, 6, 1);
        merged(0, 3, 0, 0, 0);
        merged(0, 3, 0, 0, 0, 0);
        merged(0, 3, 2, LEAST, 6, 18, 12);
        merged(0, 3, 2, LEAST, 6);
        merged(0, 3, 1, LEAST, -1);
        merged(0, 3, 1, -1, LEAST);
        merged(0, 3, 1L << 62, LEAST, 1L << 62);
        merged(0, 3, 1, LEAST, GREATEST);
        merged(0, 3, GREATEST, GREATEST, GREATEST);
        merged(0, 3, 1, 7540113804746346429L, 4660046610375530309L);
        over(3, LEAST, LEAST);
        over(3, LEAST, 0);
        over(3, 0, LEAST);
        over(3, 0, LEAST, 0, LEAST);
        // what is 2 to the power of 63 only in between does no harm
        merged(0, 3, 4, LEAST, LEAST, 4);
        merged(0, 3, 4, 0, LEAST, 4);
    }

    private static void mergesAfterMerges() {
        Check.at("promise 9, one after the other");
        SideVersions x = Check.store("whole;bits;");
        x.writes(0, 0, 0, 0, GREATEST);
        x.writes(0, 0, 0, 0, 5L);
        x.rules(0, 2);
        Check.due("merges(0, 0)", x.merges(0, 0), Check.OVER);
        x.rules(0, 0);
        Check.due("merges(0, 0) by another rule", x.merges(0, 0), 3);
        Check.due("sibling(0, 0, 0, 3)", x.sibling(0, 0, 0, 3), GREATEST);
        x.writes(0, 1, 0, 0, 2L);
        x.writes(0, 1, 0, 0, 3L);
        x.rules(0, 2);
        Check.due("merges(1, 0)", x.merges(1, 0), 3);
        Check.due("sibling(1, 0, 0, 3)", x.sibling(1, 0, 0, 3), 5);
        x.writes(0, 0, 1, 1, 6L);
        x.writes(0, 0, 1, 1, 3L);
        x.rules(1, 3);
        Check.due("merges(0, 1)", x.merges(0, 1), 3);
        Check.due("sibling(0, 1, 0, 3)", x.sibling(0, 1, 0, 3), 2);
        x.writes(0, 1, 1, 1, 6L);
        x.writes(0, 1, 1, 1, 16L);
        x.rules(1, 2);
        Check.due("merges(1, 1)", x.merges(1, 1), 3);
        Check.due("sibling(1, 1, 0, 3)", x.sibling(1, 1, 0, 3), 22);
    }

    private static void mergesBits() {
        Check.at("promise 9, bits keys");
        merged(1, 0, 12, 3, 12, 5);
        merged(1, 1, 3, 12, 3, 5);
        merged(1, 4, 5, 3, 12, 5);
        merged(1, 2, 15, 3, 12, 5);
        merged(1, 2, 3, 3, 3);
        merged(1, 2, GREATEST, GREATEST, 1);
        merged(1, 2, GREATEST, GREATEST, GREATEST, GREATEST);
        merged(1, 3, 4, 6, 12, 5);
        merged(1, 3, 0, 1, 2);
        merged(1, 3, 0, 0, 0);
        merged(1, 3, GREATEST, GREATEST, GREATEST);
        merged(1, 3, 1, GREATEST, 1);
    }

    private static void mergesInStampOrder() {
        Check.at("promise 9, the order of the stamps");
        // by dots the sum would go over, by stamps it does not, and the last one is at site 0
        SideVersions x = Check.store("whole;");
        x.writes(0, 1, 0, 0, -5L);
        x.writes(0, 0, 0, 0, GREATEST);
        x.writes(0, 1, 0, 0, -5L);
        x.writes(0, 0, 0, 0, 9L);
        x.sends(0, 1, 0);
        x.rules(0, 2);
        Check.due("merges(1, 0)", x.merges(1, 0), 3);
        Check.due("sibling(1, 0, 0, 3)", x.sibling(1, 0, 0, 3), GREATEST - 1);
        SideVersions y = Check.store("whole;");
        y.writes(0, 1, 0, 0, 6L);
        y.writes(0, 2, 0, 0, 7L);
        y.writes(0, 0, 0, 0, 8L);
        y.sends(0, 2, 0);
        y.sends(1, 2, 0);
        y.rules(0, 4);
        Check.due("merges(2, 0)", y.merges(2, 0), 2);
        Check.due("sibling(2, 0, 0, 3)", y.sibling(2, 0, 0, 3), 8);
        SideVersions z = Check.store("whole;");
        z.writes(0, 1, 0, 0, GREATEST);
        z.writes(0, 0, 0, 0, -1L);
        z.writes(0, 1, 0, 0, 2L);
        z.sends(1, 0, 0);
        z.rules(0, 2);
        Check.due("merges(0, 0)", z.merges(0, 0), Check.OVER);
    }

    private static void rules() {
        Check.at("promise 10");
        SideVersions x = Check.store("whole;bits;whole;bits;");
        Check.due("rules(-1, 0)", x.rules(-1, 0), Check.BAD);
        Check.due("rules(4, 0)", x.rules(4, 0), Check.BAD);
        Check.due("rules(0, -1)", x.rules(0, -1), Check.BAD);
        Check.due("rules(0, 5)", x.rules(0, 5), Check.BAD);
        Check.due("rule(0, 0)", x.rule(0, 0), Check.NONE);
        Check.due("rules(3, 0)", x.rules(3, 0), Check.NONE);
        Check.due("rules(1, 4)", x.rules(1, 4), Check.NONE);
        Check.due("rules(3, 2) again", x.rules(3, 2), Check.NONE);
        Check.due("rules(3, 2) the same", x.rules(3, 2), Check.NONE);
        Check.due("rule(0, 0) keeps its place", x.rule(0, 0), 3);
        Check.due("rule(0, 1)", x.rule(0, 1), 2);
        Check.due("rules(0, 1)", x.rules(0, 1), 3);
        Check.due("rule(0, 0)", x.rule(0, 0), 1);
        Check.due("rule(0, 1)", x.rule(0, 1), 4);
        Check.due("rule(1, 0)", x.rule(1, 0), 0);
        Check.due("rule(1, 1)", x.rule(1, 1), 1);
        // who had lost its rule is the youngest when it gets one again
        Check.due("rules(3, 3)", x.rules(3, 3), 1);
        Check.due("rules(1, 3)", x.rules(1, 3), 0);
        Check.due("rules(0, 3)", x.rules(0, 3), 3);
        Check.due("rule(0, 0)", x.rule(0, 0), 1);
        Check.due("rule(1, 0)", x.rule(1, 0), 0);
        // a key that lost its rule cannot be merged
        x.writes(0, 0, 3, 1, 1L);
        x.writes(0, 0, 3, 1, 2L);
        Check.due("merges(0, 3)", x.merges(0, 3), Check.STATE);
        SideVersions none = new SideVersions();
        Check.due("rules(0, 0) without keys", none.rules(0, 0), Check.BAD);
    }
}
