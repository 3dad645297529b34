/** Promises 11 to 20: what is so. */
public final class AnswersTest {
    public static void main(String[] args) {
        row();
        sibling();
        context();
        write();
        ahead();
        alike();
        behind();
        spread();
        spreadOfSome();
        spreadWithoutTheBound();
        rule();
        tally();
        Check.finish();
    }

    private static void row() {
        Check.at("promise 11");
        SideVersions x = Check.store("sites 2;whole;whole;");
        x.writes(0, 1, 1, 0, 1L);
        x.writes(0, 1, 1, 0, 1L);
        Check.due("row(1, 1, 1)", x.row(1, 1, 1), 2);
        Check.due("row(1, 1, 0)", x.row(1, 1, 0), 0);
        Check.due("row(0, 1, 1)", x.row(0, 1, 1), 0);
        Check.due("row(1, 0, 1)", x.row(1, 0, 1), 0);
        Check.due("row(2, 0, 0)", x.row(2, 0, 0), Check.BAD);
        Check.due("row(-1, 0, 0)", x.row(-1, 0, 0), Check.BAD);
        Check.due("row(0, 2, 0)", x.row(0, 2, 0), Check.BAD);
        Check.due("row(0, -1, 0)", x.row(0, -1, 0), Check.BAD);
        Check.due("row(0, 0, 2)", x.row(0, 0, 2), Check.BAD);
        Check.due("row(0, 0, -1)", x.row(0, 0, -1), Check.BAD);
    }

    private static void sibling() {
        Check.at("promise 12");
        SideVersions x = Check.store("whole;");
        Check.due("sibling(0, 0, 0, 0) of none", x.sibling(0, 0, 0, 0), Check.NONE);
        x.writes(0, 2, 0, 0, -9L);
        x.writes(0, 1, 0, 0, 8L);
        x.writes(0, 0, 0, 0, 7L);
        x.writes(0, 1, 0, 0, 6L);
        x.sends(2, 1, 0);
        x.sends(0, 1, 0);
        long[][] want = {{0, 1, 3, 7}, {1, 1, 2, 8}, {1, 2, 4, 6}, {2, 1, 1, -9}};
        for (int i = 0; i < 4; i++) {
            for (int what = 0; what < 4; what++) {
                Check.due("sibling(1, 0, " + i + ", " + what + ")", x.sibling(1, 0, i, what), want[i][what]);
            }
        }
        Check.due("sibling(1, 0, 4, 0)", x.sibling(1, 0, 4, 0), Check.NONE);
        Check.due("sibling(1, 0, MAX, 3)", x.sibling(1, 0, Integer.MAX_VALUE, 3), Check.NONE);
        Check.due("sibling(1, 0, 4, 4)", x.sibling(1, 0, 4, 4), Check.BAD);
        Check.due("sibling(1, 0, 0, 4)", x.sibling(1, 0, 0, 4), Check.BAD);
        Check.due("sibling(1, 0, 0, -1)", x.sibling(1, 0, 0, -1), Check.BAD);
        Check.due("sibling(1, 0, -1, 0)", x.sibling(1, 0, -1, 0), Check.BAD);
        Check.due("sibling(3, 0, 0, 0)", x.sibling(3, 0, 0, 0), Check.BAD);
        Check.due("sibling(-1, 0, 0, 0)", x.sibling(-1, 0, 0, 0), Check.BAD);
        Check.due("sibling(0, 1, 0, 0)", x.sibling(0, 1, 0, 0), Check.BAD);
        Check.due("sibling(0, -1, 0, 0)", x.sibling(0, -1, 0, 0), Check.BAD);
    }

    private static void context() {
        Check.at("promise 13");
        SideVersions x = Check.store("sites 2;limit 1;whole;whole;");
        x.writes(0, 0, 1, 0, 1L);
        x.writes(0, 1, 1, 0, 1L);
        x.writes(0, 0, 1, 0, 1L);
        x.sends(0, 1, 1);
        x.reads(3, 1, 1);
        Check.due("context(3, -1)", x.context(3, -1), 1);
        Check.due("context(3, 0)", x.context(3, 0), 2);
        Check.due("context(3, 1)", x.context(3, 1), 1);
        Check.due("context(3, 2)", x.context(3, 2), Check.BAD);
        Check.due("context(3, 3)", x.context(3, 3), Check.BAD);
        Check.due("context(3, 4)", x.context(3, 4), 2);
        Check.due("context(3, 5)", x.context(3, 5), 0);
        Check.due("context(3, 6)", x.context(3, 6), Check.BAD);
        Check.due("context(3, 8)", x.context(3, 8), Check.BAD);
        Check.due("context(3, -2)", x.context(3, -2), Check.BAD);
        Check.due("context(3, MIN)", x.context(3, Integer.MIN_VALUE), Check.BAD);
        Check.due("context(3, MAX)", x.context(3, Integer.MAX_VALUE), Check.BAD);
        Check.due("context(4, -1)", x.context(4, -1), Check.BAD);
        Check.due("context(-1, -1)", x.context(-1, -1), Check.BAD);
        Check.due("context(0, 0) of a blind client", x.context(0, 0), Check.NONE);
        Check.due("context(0, 5) of a blind client", x.context(0, 5), Check.NONE);
        Check.due("context(0, 2) of a blind client", x.context(0, 2), Check.BAD);
        Check.due("context(0, -2) of a blind client", x.context(0, -2), Check.BAD);
        // a later reading takes the place of the one before
        x.reads(3, 0, 0);
        Check.due("context(3, -1)", x.context(3, -1), 0);
        Check.due("context(3, 0)", x.context(3, 0), 0);
        Check.due("context(3, 4)", x.context(3, 4), 0);
        SideVersions y = Check.store("sites 4;whole;");
        y.reads(0, 0, 0);
        Check.due("context(0, 7)", y.context(0, 7), 0);
        Check.due("context(0, 8)", y.context(0, 8), Check.BAD);
    }

    private static void write() {
        Check.at("promise 14");
        SideVersions x = Check.store("sites 4;bound 2;whole;whole;");
        x.writes(0, 3, 1, 0, -7L);
        x.writes(0, 2, 1, 0, -3L);
        for (int what = 0; what <= 7; what++) {
            long[] want = {-3, 2, 0, 0, 0, 0, 4, 0};
            Check.due("write(1, 2, 1, " + what + ")", x.write(1, 2, 1, what), want[what]);
        }
        x.sends(2, 0, 1);
        x.sends(2, 3, 1);
        Check.due("write(1, 2, 1, 6)", x.write(1, 2, 1, 6), 13);
        x.reads(1, 0, 1);
        Check.due("write(1, 2, 1, 2)", x.write(1, 2, 1, 2), 1);
        x.writes(1, 0, 1, 0, 4L);
        Check.due("write(1, 2, 1, 4)", x.write(1, 2, 1, 4), 1);
        Check.due("write(1, 2, 1, 6)", x.write(1, 2, 1, 6), 12);
        x.rules(1, 0);
        x.merges(3, 1);
        Check.due("write(1, 2, 1, 5)", x.write(1, 2, 1, 5), 1);
        Check.due("write(1, 3, 1, 5)", x.write(1, 3, 1, 5), 1);
        Check.due("write(1, 3, 1, 2)", x.write(1, 3, 1, 2), 1);
        Check.due("write(1, 3, 1, 7) is gone, but was seen", x.write(1, 3, 1, 7), 0);
        Check.due("write(1, 3, 1, 6)", x.write(1, 3, 1, 6), 0);
        // dropped and never seen, so lost
        x.writes(0, 1, 0, 0, 1L);
        x.writes(0, 1, 0, 0, 2L);
        x.writes(0, 1, 0, 0, 3L);
        Check.due("write(0, 1, 1, 3)", x.write(0, 1, 1, 3), 1);
        Check.due("write(0, 1, 1, 7)", x.write(0, 1, 1, 7), 1);
        Check.due("write(0, 1, 2, 7)", x.write(0, 1, 2, 7), 0);
        Check.due("write(0, 1, 1, 8)", x.write(0, 1, 1, 8), Check.BAD);
        Check.due("write(0, 1, 1, -1)", x.write(0, 1, 1, -1), Check.BAD);
        Check.due("write(0, 1, 0, 0)", x.write(0, 1, 0, 0), Check.BAD);
        Check.due("write(0, 1, -1, 0)", x.write(0, 1, -1, 0), Check.BAD);
        Check.due("write(0, 1, 4, 0)", x.write(0, 1, 4, 0), Check.BAD);
        Check.due("write(0, 1, 41, 0)", x.write(0, 1, 41, 0), Check.BAD);
        Check.due("write(0, 1, MAX, 0)", x.write(0, 1, Integer.MAX_VALUE, 0), Check.BAD);
        Check.due("write(0, 0, 1, 0)", x.write(0, 0, 1, 0), Check.BAD);
        Check.due("write(0, 4, 1, 0)", x.write(0, 4, 1, 0), Check.BAD);
        Check.due("write(0, -1, 1, 0)", x.write(0, -1, 1, 0), Check.BAD);
        Check.due("write(2, 1, 1, 0)", x.write(2, 1, 1, 0), Check.BAD);
        Check.due("write(-1, 1, 1, 0)", x.write(-1, 1, 1, 0), Check.BAD);
        // the next dot of a full site is no dot of the next site
        for (int n = 4; n <= 40; n++) {
            x.writes(0, 1, 0, 0, n);
        }
        x.writes(0, 2, 0, 0, 77L);
        Check.due("write(0, 1, 41, 0)", x.write(0, 1, 41, 0), Check.BAD);
        Check.due("write(0, 2, 0, 0)", x.write(0, 2, 0, 0), Check.BAD);
        Check.due("write(0, 1, 40, 0)", x.write(0, 1, 40, 0), 40);
    }

    private static void ahead() {
        Check.at("promise 15");
        SideVersions x = Check.store("limit 1;whole;whole;");
        x.writes(0, 0, 0, 0, 1L);
        x.writes(0, 1, 0, 0, 2L);
        x.sends(0, 1, 0);
        x.reads(0, 1, 0);
        x.writes(0, 2, 0, 0, 3L);
        Check.due("ahead(0, 0, 1, 2, 1, 0)", x.ahead(0, 0, 1, 2, 1, 0), 0);
        Check.due("ahead(0, 0, 1, 2, 1, 1)", x.ahead(0, 0, 1, 2, 1, 1), 1);
        Check.due("ahead(0, 1, 1, 2, 1, 0)", x.ahead(0, 1, 1, 2, 1, 0), 1);
        Check.due("ahead(0, 1, 1, 2, 1, 1)", x.ahead(0, 1, 1, 2, 1, 1), 1);
        Check.due("ahead(0, 2, 1, 0, 1, 1)", x.ahead(0, 2, 1, 0, 1, 1), 0);
        Check.due("ahead(0, 2, 1, 2, 1, 0) of itself", x.ahead(0, 2, 1, 2, 1, 0), 0);
        Check.due("ahead(0, 2, 1, 2, 1, 1) of itself", x.ahead(0, 2, 1, 2, 1, 1), 0);
        x.reads(1, 2, 0);
        x.writes(1, 2, 0, 0, 4L);
        Check.due("ahead(0, 2, 1, 2, 2, 0)", x.ahead(0, 2, 1, 2, 2, 0), 1);
        Check.due("ahead(0, 2, 2, 2, 1, 0)", x.ahead(0, 2, 2, 2, 1, 0), 0);
        Check.due("ahead(0, 0, 1, 2, 1, 2)", x.ahead(0, 0, 1, 2, 1, 2), Check.BAD);
        Check.due("ahead(0, 0, 1, 2, 1, -1)", x.ahead(0, 0, 1, 2, 1, -1), Check.BAD);
        Check.due("ahead(0, 0, 2, 2, 1, 0)", x.ahead(0, 0, 2, 2, 1, 0), Check.BAD);
        Check.due("ahead(0, 0, 0, 2, 1, 0)", x.ahead(0, 0, 0, 2, 1, 0), Check.BAD);
        Check.due("ahead(0, 0, 1, 2, 3, 0)", x.ahead(0, 0, 1, 2, 3, 0), Check.BAD);
        Check.due("ahead(0, 0, 1, 2, 0, 0)", x.ahead(0, 0, 1, 2, 0, 0), Check.BAD);
        Check.due("ahead(0, 3, 1, 2, 1, 0)", x.ahead(0, 3, 1, 2, 1, 0), Check.BAD);
        Check.due("ahead(0, -1, 1, 2, 1, 0)", x.ahead(0, -1, 1, 2, 1, 0), Check.BAD);
        Check.due("ahead(0, 0, 1, 3, 1, 0)", x.ahead(0, 0, 1, 3, 1, 0), Check.BAD);
        Check.due("ahead(0, 0, 1, -1, 1, 0)", x.ahead(0, 0, 1, -1, 1, 0), Check.BAD);
        Check.due("ahead(1, 0, 1, 2, 1, 0)", x.ahead(1, 0, 1, 2, 1, 0), Check.BAD);
        Check.due("ahead(2, 0, 1, 2, 1, 0)", x.ahead(2, 0, 1, 2, 1, 0), Check.BAD);
        Check.due("ahead(-1, 0, 1, 2, 1, 0)", x.ahead(-1, 0, 1, 2, 1, 0), Check.BAD);
    }

    private static void alike() {
        Check.at("promise 16");
        SideVersions x = Check.store("bound 1;whole;whole;");
        Check.due("alike(0, 1, 0)", x.alike(0, 1, 0), 1);
        x.writes(0, 0, 0, 0, 1L);
        Check.due("alike(0, 1, 0)", x.alike(0, 1, 0), 0);
        Check.due("alike(0, 1, 1)", x.alike(0, 1, 1), 1);
        Check.due("alike(0, 0, 0)", x.alike(0, 0, 0), 1);
        x.sends(0, 1, 0);
        Check.due("alike(1, 0, 0)", x.alike(1, 0, 0), 1);
        // the same siblings with other rows: site 1 has dropped a write that site 0 does not know
        SideVersions y = Check.store("bound 1;whole;");
        y.writes(0, 0, 0, 0, 1L);
        y.writes(0, 1, 0, 0, 2L);
        y.sends(1, 2, 0);
        y.sends(0, 1, 0);
        Check.due("sibling(1, 0, 0, 0)", y.sibling(1, 0, 0, 0), 1);
        Check.due("sibling(2, 0, 0, 0)", y.sibling(2, 0, 0, 0), 1);
        Check.due("alike(1, 2, 0)", y.alike(1, 2, 0), 0);
        SideVersions z = equalRows();
        for (int site = 0; site < 4; site++) {
            Check.due("row(0, 0, site)", z.row(0, 0, site), z.row(3, 0, site));
        }
        Check.due("alike(0, 3, 0)", z.alike(0, 3, 0), 0);
        z.sends(3, 0, 0);
        Check.due("alike(0, 3, 0) after sending", z.alike(0, 3, 0), 1);
        Check.due("alike(-1, 0, 0)", z.alike(-1, 0, 0), Check.BAD);
        Check.due("alike(4, 0, 0)", z.alike(4, 0, 0), Check.BAD);
        Check.due("alike(0, -1, 0)", z.alike(0, -1, 0), Check.BAD);
        Check.due("alike(0, 4, 0)", z.alike(0, 4, 0), Check.BAD);
        Check.due("alike(0, 0, -1)", z.alike(0, 0, -1), Check.BAD);
        Check.due("alike(0, 0, 1)", z.alike(0, 0, 1), Check.BAD);
    }

    private static void behind() {
        Check.at("promise 17");
        SideVersions x = Check.store("sites 4;whole;bits;");
        Check.due("behind(0, 0)", x.behind(0, 0), 0);
        x.writes(0, 0, 0, 0, 1L);
        x.writes(0, 0, 0, 0, 1L);
        x.writes(0, 0, 0, 0, 1L);
        x.writes(0, 1, 0, 0, 1L);
        x.writes(0, 3, 0, 0, 1L);
        Check.due("behind(0, 0)", x.behind(0, 0), 2);
        Check.due("behind(1, 0)", x.behind(1, 0), 4);
        Check.due("behind(2, 0)", x.behind(2, 0), 5);
        Check.due("behind(3, 0)", x.behind(3, 0), 4);
        Check.due("behind(2, 1)", x.behind(2, 1), 0);
        x.sends(0, 2, 0);
        Check.due("behind(2, 0)", x.behind(2, 0), 2);
        Check.due("behind(-1, 0)", x.behind(-1, 0), Check.BAD);
        Check.due("behind(4, 0)", x.behind(4, 0), Check.BAD);
        Check.due("behind(0, -1)", x.behind(0, -1), Check.BAD);
        Check.due("behind(0, 2)", x.behind(0, 2), Check.BAD);
    }

    private static void spread() {
        Check.at("promise 18");
        for (int sites = 2; sites <= 4; sites++) {
            SideVersions x = Check.store("sites " + sites + ";bits;whole;");
            Check.due("spread(1, 0)", x.spread(1, 0), 0);
            Check.due("spread(1, 1)", x.spread(1, 1), Check.NONE);
            x.writes(0, 1, 1, 0, 1L);
            Check.due("spread(1, 0)", x.spread(1, 0), sites - 1);
            Check.due("spread(1, 1)", x.spread(1, 1), 10);
            Check.due("spread(0, 0) of another key", x.spread(0, 0), 0);
            x.writes(0, 0, 0, 1, 1L);
            Check.due("spread(0, 0)", x.spread(0, 0), sites - 1);
            Check.due("spread(0, 1)", x.spread(0, 1), 1);
            for (int site = 0; site < sites; site++) {
                x.writes(0, site, 1, 0, 1L);
            }
            Check.due("spread(1, 0)", x.spread(1, 0), 2 * (sites - 1));
            Check.due("spread(1, 1)", x.spread(1, 1), 1);
            Check.due("row(1, 1, 0) stays", x.row(1, 1, 0), 0);
            Check.due("spread(2, 0)", x.spread(2, 0), Check.BAD);
            Check.due("spread(-1, 0)", x.spread(-1, 0), Check.BAD);
            Check.due("spread(0, 2)", x.spread(0, 2), Check.BAD);
            Check.due("spread(0, -1)", x.spread(0, -1), Check.BAD);
        }
    }

    private static void spreadOfSome() {
        Check.at("promise 18, some sites alone have news");
        SideVersions x = Check.store("sites 4;whole;");
        x.writes(0, 2, 0, 0, 1L);
        x.writes(0, 3, 0, 0, 1L);
        Check.due("spread(0, 0)", x.spread(0, 0), 4);
        Check.due("spread(0, 1)", x.spread(0, 1), 23);
        x.sends(3, 1, 0);
        // 1 and 3 are alike now; 2 must meet one of them
        Check.due("spread(0, 0)", x.spread(0, 0), 4);
        Check.due("spread(0, 1)", x.spread(0, 1), 12);
        x.sends(2, 3, 0);
        // 3 has all, but 1 and 2 can still complete each other
        Check.due("spread(0, 0)", x.spread(0, 0), 3);
        Check.due("spread(0, 1)", x.spread(0, 1), 12);
        x.sends(3, 0, 0);
        Check.due("spread(0, 0)", x.spread(0, 0), 2);
        Check.due("spread(0, 1)", x.spread(0, 1), 1);
        SideVersions y = Check.store("sites 4;whole;");
        y.writes(0, 1, 0, 0, 1L);
        y.writes(0, 2, 0, 0, 1L);
        y.writes(0, 3, 0, 0, 1L);
        Check.due("spread(0, 0)", y.spread(0, 0), 5);
        Check.due("spread(0, 1)", y.spread(0, 1), 12);
        // what site 0 has replaced stays so when site 1, which never had it, adds its own
        SideVersions z = Check.store("whole;");
        z.writes(0, 0, 0, 0, 1L);
        z.reads(0, 0, 0);
        z.writes(0, 0, 0, 0, 2L);
        z.writes(0, 1, 0, 0, 3L);
        Check.due("spread(0, 0)", z.spread(0, 0), 3);
        Check.due("spread(0, 1)", z.spread(0, 1), 1);
    }

    private static void spreadWithoutTheBound() {
        Check.at("promise 18, the bound");
        // with the bound, sending from 0 to 1 would drop the write there and be a beginning too
        SideVersions x = Check.store("bound 1;whole;");
        x.writes(0, 1, 0, 0, 1L);
        x.writes(0, 0, 0, 0, 2L);
        x.sends(1, 2, 0);
        x.sends(0, 2, 0);
        Check.due("write(0, 1, 1, 3)", x.write(0, 1, 1, 3), 1);
        Check.due("spread(0, 0)", x.spread(0, 0), 2);
        Check.due("spread(0, 1)", x.spread(0, 1), 20);
        // what one site has dropped is to go from all of them
        SideVersions y = equalRows();
        Check.due("spread(0, 0)", y.spread(0, 0), 3);
        Check.due("spread(0, 1)", y.spread(0, 1), 30);
    }

    /** Sites 0 and 3 have the row (1, 3, 0, 0), but only site 3 has dropped the write of site 0. */
    private static SideVersions equalRows() {
        SideVersions x = Check.store("sites 4;bound 2;whole;");
        x.writes(0, 0, 0, 0, 1L);
        x.writes(0, 1, 0, 0, 2L);
        x.writes(0, 1, 0, 0, 3L);
        x.sends(0, 3, 0);
        x.sends(1, 3, 0);
        Check.due("write(0, 0, 1, 3)", x.write(0, 0, 1, 3), 1);
        x.reads(0, 1, 0);
        x.writes(0, 1, 0, 0, 4L);
        x.sends(1, 3, 0);
        x.sends(1, 0, 0);
        return x;
    }

    private static void rule() {
        Check.at("promise 19");
        SideVersions x = Check.store("whole;bits;whole;");
        Check.due("rule(0, 0)", x.rule(0, 0), Check.NONE);
        Check.due("rule(0, 1)", x.rule(0, 1), Check.NONE);
        x.rules(2, 4);
        Check.due("rule(0, 0)", x.rule(0, 0), 2);
        Check.due("rule(0, 1)", x.rule(0, 1), 4);
        Check.due("rule(1, 0)", x.rule(1, 0), Check.NONE);
        x.rules(0, 1);
        Check.due("rule(1, 0)", x.rule(1, 0), 0);
        Check.due("rule(1, 1)", x.rule(1, 1), 1);
        Check.due("rule(2, 0)", x.rule(2, 0), Check.NONE);
        Check.due("rule(MAX, 1)", x.rule(Integer.MAX_VALUE, 1), Check.NONE);
        Check.due("rule(-1, 0)", x.rule(-1, 0), Check.BAD);
        Check.due("rule(0, 2)", x.rule(0, 2), Check.BAD);
        Check.due("rule(0, -1)", x.rule(0, -1), Check.BAD);
        Check.due("rule(5, 2)", x.rule(5, 2), Check.BAD);
    }

    private static void tally() {
        Check.at("promise 20");
        SideVersions x = Check.store("bound 2;limit 1;bits;whole;");
        Check.due("tally(0, 0)", x.tally(0, 0), 1);
        Check.due("tally(1, 0)", x.tally(1, 0), 0);
        x.writes(0, 0, 1, 0, 1L);
        x.writes(0, 0, 1, 0, 2L);
        x.writes(0, 0, 1, 0, 3L);
        x.sends(0, 1, 1);
        x.reads(0, 1, 1);
        x.reads(1, 0, 1);
        x.writes(0, 1, 1, 0, 4L);
        x.writes(1, 0, 1, 0, 5L);
        // replaced at two sites, they count once
        Check.due("tally(1, 1)", x.tally(1, 1), 5);
        Check.due("tally(1, 2)", x.tally(1, 2), 2);
        Check.due("tally(1, 3)", x.tally(1, 3), 0);
        Check.due("tally(1, 4)", x.tally(1, 4), 1);
        Check.due("tally(1, 5)", x.tally(1, 5), 1);
        Check.due("tally(1, 6)", x.tally(1, 6), 0);
        x.sends(0, 1, 1);
        x.reads(2, 1, 1);
        x.writes(2, 1, 1, 0, 6L);
        Check.due("tally(1, 6)", x.tally(1, 6), 1);
        x.rules(1, 0);
        x.merges(1, 1);
        Check.due("tally(1, 1)", x.tally(1, 1), 7);
        Check.due("tally(1, 3)", x.tally(1, 3), 2);
        for (int what = 1; what <= 6; what++) {
            Check.due("tally(0, what) of another key", x.tally(0, what), 0);
        }
        Check.due("tally(1, 7)", x.tally(1, 7), Check.BAD);
        Check.due("tally(1, -1)", x.tally(1, -1), Check.BAD);
        Check.due("tally(2, 0)", x.tally(2, 0), Check.BAD);
        Check.due("tally(-1, 0)", x.tally(-1, 0), Check.BAD);
    }
}
