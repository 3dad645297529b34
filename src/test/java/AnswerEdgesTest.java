/** Promises 11 to 21: every sentence on what is so that names an edge, beside the ranges of the arguments. */
public final class AnswerEdgesTest {
    public static void main(String[] args) {
        rowsAtFirst();
        asManySiblings();
        theOrderOfTheSiblings();
        theKeyOfAContext();
        seenByReadingOrMerging();
        whatBecomesOfAWrite();
        lostWrites();
        noWriteCoversItself();
        aSiteIsLikeItself();
        equalRowsOrEqualSiblings();
        behindTheGreatestOfAnySite();
        nothingToSpread();
        spreadingFromOneSite();
        spreadingFromAll();
        spreadingGoesByKeys();
        spreadingOldNews();
        spreadingBeginsLowest();
        theTallyOfEachWrite();
        countsOfAllKeys();
        Check.finish();
    }

    private static void rowsAtFirst() {
        Check.at("each site has for each key a row, at first all 0, and no siblings");
        for (int sites = 2; sites <= 4; sites++) {
            SideVersions x = Check.store("sites " + sites + ";whole;bits;");
            for (int site = 0; site < sites; site++) {
                for (int key = 0; key < 2; key++) {
                    for (int s = 0; s < sites; s++) {
                        Check.due("row(" + site + ", " + key + ", " + s + ")", x.row(site, key, s), 0);
                    }
                    Check.due("sibling(" + site + ", " + key + ", 0, 0)", x.sibling(site, key, 0, 0), Check.NONE);
                    Check.due("behind(" + site + ", " + key + ")", x.behind(site, key), 0);
                    Check.due("reads(0, " + site + ", " + key + ")", x.reads(0, site, key), 0);
                }
            }
            Check.due("tally(0, 0)", x.tally(0, 0), 0);
            Check.due("tally(1, 0)", x.tally(1, 0), 1);
            for (int what = 1; what <= 6; what++) {
                Check.due("tally(0, " + what + ")", x.tally(0, what), 0);
            }
        }
    }

    private static void asManySiblings() {
        Check.at("promise 12: NONE if there are not so many siblings");
        for (int siblings = 0; siblings <= 6; siblings++) {
            SideVersions x = Check.store("bound 6;whole;");
            for (int n = 1; n <= siblings; n++) {
                x.writes(0, 1, 0, 0, n);
            }
            for (int what = 0; what < 4; what++) {
                for (int i = 0; i <= 7; i++) {
                    long want = i >= siblings ? Check.NONE : what == 0 ? 1 : i + 1;
                    Check.due("sibling(1, 0, " + i + ", " + what + ") of " + siblings, x.sibling(1, 0, i, what), want);
                }
                Check.due("sibling(1, 0, MAX, " + what + ")", x.sibling(1, 0, Integer.MAX_VALUE, what), Check.NONE);
            }
        }
    }

    private static void theOrderOfTheSiblings() {
        Check.at("promise 12: ordered by the site of their dots and then by the number of their dots");
        SideVersions x = Check.store("sites 4;bound 6;whole;");
        for (int n = 1; n <= 10; n++) {
            x.writes(0, 3, 0, 0, 30L + n);
        }
        for (int n = 1; n <= 11; n++) {
            x.writes(0, 1, 0, 0, 10L + n);
        }
        x.writes(0, 0, 0, 0, 1L);
        x.sends(3, 2, 0);
        x.writes(0, 2, 0, 0, 21L);
        x.sends(0, 2, 0);
        x.sends(1, 2, 0);
        // six are left: the numbers 8 to 11 of site 1, and the first ones of sites 0 and 2
        long[][] want = {{0, 1}, {1, 8}, {1, 9}, {1, 10}, {1, 11}, {2, 1}};
        for (int i = 0; i < want.length; i++) {
            Check.due("the site of sibling " + i, x.sibling(2, 0, i, 0), want[i][0]);
            Check.due("the number of sibling " + i, x.sibling(2, 0, i, 1), want[i][1]);
        }
        Check.due("behind the last", x.sibling(2, 0, 6, 0), Check.NONE);
    }

    private static void theKeyOfAContext() {
        Check.at("promise 13: the key and the rows of the context");
        SideVersions x = Check.store("sites 4;limit 3;whole;whole;whole;whole;");
        for (int site = 0; site < 4; site++) {
            for (int n = 0; n <= site; n++) {
                x.writes(0, site, 3, 0, n);
            }
            x.sends(site, 0, 3);
        }
        for (int client = 0; client < 4; client++) {
            Check.due("context(" + client + ", -1) of a blind client", x.context(client, -1), Check.NONE);
            x.reads(client, 0, 3 - client);
            Check.due("context(" + client + ", -1)", x.context(client, -1), 3 - client);
        }
        for (int s = 0; s < 4; s++) {
            Check.due("context(0, " + s + ")", x.context(0, s), s + 1);
            Check.due("context(0, 4 + " + s + ")", x.context(0, 4 + s), s == 0 ? 0 : s + 1);
            Check.due("context(1, " + s + ")", x.context(1, s), 0);
            Check.due("context(1, 4 + " + s + ")", x.context(1, 4 + s), 0);
        }
    }

    private static void seenByReadingOrMerging() {
        Check.at("promise 14: whether it has been seen");
        SideVersions x = Check.store("whole;");
        x.rules(0, 0);
        x.writes(0, 0, 0, 0, 1L);
        x.writes(0, 0, 0, 0, 2L);
        x.writes(0, 1, 0, 0, 3L);
        x.writes(0, 2, 0, 0, 4L);
        x.sends(2, 1, 0);
        Check.due("before", x.write(0, 2, 1, 2), 0);
        x.merges(0, 0);
        Check.due("by merging", x.write(0, 0, 1, 2), 1);
        Check.due("by merging", x.write(0, 0, 2, 2), 1);
        Check.due("the new one is not", x.write(0, 0, 3, 2), 0);
        x.reads(0, 1, 0);
        Check.due("by reading", x.write(0, 1, 1, 2), 1);
        Check.due("by reading at another site", x.write(0, 2, 1, 2), 1);
        x.blinds(0);
        Check.due("for ever", x.write(0, 2, 1, 2), 1);
    }

    /** Asserts what write() answers with what from 2 to 7. */
    private static void become(String name, SideVersions x, int site, int n, long... want) {
        for (int what = 2; what <= 7; what++) {
            Check.due(name + ", what " + what, x.write(0, site, n, what), want[what - 2]);
        }
    }

    private static void whatBecomesOfAWrite() {
        Check.at("promise 14: seen, dropped, replaced and merged at some site each, 1 or 0, and where it is a sibling now");
        SideVersions x = Check.store("sites 4;bound 2;whole;");
        x.writes(0, 0, 0, 0, 1L);
        become("new", x, 0, 1, 0, 0, 0, 0, 1, 0);
        for (int to = 1; to < 4; to++) {
            x.sends(0, to, 0);
            become("sent to " + to, x, 0, 1, 0, 0, 0, 0, (2L << to) - 1, 0);
        }
        x.writes(0, 1, 0, 0, 2L);
        x.writes(0, 1, 0, 0, 3L);
        become("dropped at 1", x, 0, 1, 0, 1, 0, 0, 13, 0);
        x.reads(0, 2, 0);
        become("seen at 2", x, 0, 1, 1, 1, 0, 0, 13, 0);
        x.writes(0, 2, 0, 0, 4L);
        become("replaced at 2", x, 0, 1, 1, 1, 1, 0, 9, 0);
        x.writes(0, 3, 0, 0, 5L);
        x.rules(0, 0);
        x.merges(3, 0);
        become("merged at 3", x, 0, 1, 1, 1, 1, 1, 1, 0);
        x.sends(3, 0, 0);
        become("gone from 0", x, 0, 1, 1, 1, 1, 1, 0, 0);
    }

    private static void lostWrites() {
        Check.at("promise 14: lost: it is a sibling at no site now, and has never been seen");
        SideVersions x = Check.store("sites 2;bound 1;whole;");
        x.writes(0, 0, 0, 0, 1L);
        x.sends(0, 1, 0);
        x.writes(0, 1, 0, 0, 2L);
        become("dropped at 1, at 0 still", x, 0, 1, 0, 1, 0, 0, 1, 0);
        x.reads(3, 1, 0);
        become("covered by a context, but not seen", x, 0, 1, 0, 1, 0, 0, 1, 0);
        x.writes(3, 0, 0, 0, 3L);
        become("replaced at 0, never seen", x, 0, 1, 0, 1, 1, 0, 0, 1);
        Check.due("tally(0, 5)", x.tally(0, 5), 1);
        become("seen and at 1 still", x, 1, 1, 1, 0, 0, 0, 2, 0);
        x.sends(0, 1, 0);
        become("seen and gone", x, 1, 1, 1, 0, 0, 0, 0, 0);
        Check.due("tally(0, 5) then", x.tally(0, 5), 1);
        SideVersions y = Check.store("sites 2;bound 1;whole;");
        y.writes(0, 0, 0, 0, 1L);
        y.sends(0, 1, 0);
        y.writes(0, 0, 0, 0, 2L);
        y.sends(0, 1, 0);
        become("dropped at 0, removed at 1 by sending", y, 0, 1, 0, 1, 0, 0, 0, 1);
        y.writes(0, 0, 0, 0, 3L);
        become("dropped at 0, at 1 still", y, 0, 2, 0, 1, 0, 0, 2, 0);
        Check.due("tally(0, 5)", y.tally(0, 5), 1);
    }

    private static void noWriteCoversItself() {
        Check.at("promise 15: another write of this key, or its own one");
        SideVersions x = Check.store("whole;");
        x.rules(0, 0);
        x.writes(0, 0, 0, 0, 1L);
        x.reads(0, 0, 0);
        x.writes(0, 0, 0, 0, 2L);
        x.writes(1, 0, 0, 0, 3L);
        x.merges(0, 0);
        for (int way = 0; way < 2; way++) {
            for (int n = 1; n <= 4; n++) {
                for (int m = 1; m <= 4; m++) {
                    boolean covers = n == 2 && m == 1 || n == 4 && m < 4;
                    Check.due("ahead(0, 0, " + m + ", 0, " + n + ", " + way + ")", x.ahead(0, 0, m, 0, n, way), covers ? 1 : 0);
                }
            }
        }
    }

    private static void aSiteIsLikeItself() {
        Check.at("promise 16: a site and itself, and both ways round");
        SideVersions x = Check.store("sites 4;whole;");
        x.writes(0, 2, 0, 0, 1L);
        x.sends(2, 0, 0);
        for (int a = 0; a < 4; a++) {
            for (int b = 0; b < 4; b++) {
                Check.due("alike(" + a + ", " + b + ", 0)", x.alike(a, b, 0), a % 2 == b % 2 ? 1 : 0);
            }
        }
    }

    private static void equalRowsOrEqualSiblings() {
        Check.at("promise 16: equal rows and the same siblings");
        // site 2 has dropped the write of site 1, which site 0 has never heard of; AnswersTest has equal rows
        SideVersions x = Check.store("bound 1;whole;whole;");
        x.writes(0, 1, 0, 0, 1L);
        x.writes(0, 0, 0, 0, 2L);
        x.sends(0, 2, 0);
        x.sends(1, 2, 0);
        Check.due("sites 0 and 2 have the same sibling", x.sibling(2, 0, 0, 3), x.sibling(0, 0, 0, 3));
        Check.due("but other rows", x.row(2, 0, 1) - x.row(0, 0, 1), 1);
        Check.due("alike(0, 2, 0)", x.alike(0, 2, 0), 0);
        Check.due("of a key without writes", x.alike(0, 2, 1), 1);
    }

    private static void behindTheGreatestOfAnySite() {
        Check.at("promise 17: the greatest number for s in the row of any site");
        SideVersions x = Check.store("sites 4;limit 1;whole;");
        for (int n = 1; n <= 40; n++) {
            x.writes(0, 3, 0, 0, n);
            x.writes(0, 2, 0, 0, n);
            x.writes(0, 1, 0, 0, n);
            x.writes(0, 0, 0, 0, n);
        }
        for (int site = 0; site < 4; site++) {
            Check.due("behind(" + site + ", 0)", x.behind(site, 0), 120);
        }
        x.sends(0, 1, 0);
        Check.due("behind(1, 0)", x.behind(1, 0), 80);
        x.sends(1, 2, 0);
        Check.due("behind(2, 0)", x.behind(2, 0), 40);
        x.sends(2, 3, 0);
        Check.due("behind(3, 0), which has all", x.behind(3, 0), 0);
        Check.due("behind(0, 0) stays", x.behind(0, 0), 120);
        x.sends(3, 0, 0);
        Check.due("behind(0, 0) then", x.behind(0, 0), 0);
        // the number for a site may be greater elsewhere only by its own writes: told brings others
        SideVersions y = Check.store("whole;");
        y.writes(0, 0, 0, 0, 1L);
        y.reads(0, 0, 0);
        y.writes(0, 1, 0, 0, 2L);
        Check.due("behind(0, 0) of told", y.behind(0, 0), 1);
        Check.due("behind(1, 0) of told", y.behind(1, 0), 0);
        Check.due("behind(2, 0) of told", y.behind(2, 0), 2);
    }

    private static void spreads(String name, SideVersions x, int fewest, int first) {
        Check.due(name + ": spread(0, 0)", x.spread(0, 0), fewest);
        Check.due(name + ": spread(0, 1)", x.spread(0, 1), first);
    }

    private static void nothingToSpread() {
        Check.at("promise 18: 0, and NONE if no transmission is needed");
        for (int sites = 2; sites <= 4; sites++) {
            SideVersions x = Check.store("sites " + sites + ";whole;");
            spreads("nothing written", x, 0, -9);
            x.writes(0, 1, 0, 0, 1L);
            for (int to = 0; to < sites; to++) {
                if (to != 1) {
                    spreads("before sending to " + to, x, Math.min(sites - 1, sites - to), to == 0 ? 10 : to);
                    x.sends(1, to, 0);
                }
            }
            spreads("all are alike", x, 0, -9);
        }
    }

    private static void spreadingFromOneSite() {
        Check.at("promise 18: one site alone has news");
        for (int sites = 2; sites <= 4; sites++) {
            for (int site = 0; site < sites; site++) {
                SideVersions x = Check.store("sites " + sites + ";whole;");
                x.writes(0, site, 0, 0, 1L);
                x.writes(0, site, 0, 0, 2L);
                spreads("site " + site + " of " + sites, x, sites - 1, site == 0 ? 1 : 10 * site);
            }
        }
    }

    private static void spreadingFromAll() {
        Check.at("promise 18: some sites have news");
        for (int sites = 2; sites <= 4; sites++) {
            for (int set = 1; set < 1 << sites; set++) {
                SideVersions x = Check.store("sites " + sites + ";whole;");
                int[] news = new int[sites];
                int size = 0;
                for (int site = 0; site < sites; site++) {
                    if ((set >> site & 1) == 1) {
                        x.writes(0, site, 0, 0, 1L);
                        news[size++] = site;
                    }
                }
                int first = size > 1 ? 10 * news[0] + news[1] : news[0] == 0 ? 1 : 10 * news[0];
                spreads("the sites of the set " + set + " of " + sites, x, size + sites - 2, first);
            }
        }
    }

    private static void spreadingGoesByKeys() {
        Check.at("promise 18: the state of a key");
        SideVersions x = Check.store("sites 2;bits;whole;bits;whole;");
        x.writes(0, 1, 2, 1, 1L);
        x.writes(0, 0, 3, 0, 1L);
        x.writes(0, 1, 3, 0, 1L);
        long[][] want = {{0, -9}, {0, -9}, {1, 10}, {2, 1}};
        for (int key = 0; key < 4; key++) {
            for (int what = 0; what < 2; what++) {
                Check.due("spread(" + key + ", " + what + ")", x.spread(key, what), want[key][what]);
            }
        }
    }

    private static void spreadingOldNews() {
        Check.at("promise 18: a site that is only behind has nothing to send");
        SideVersions x = Check.store("sites 4;whole;");
        for (int site = 0; site < 4; site++) {
            x.writes(0, site, 0, 0, 1L);
            x.sends(site, 3, 0);
        }
        spreads("site 3 has all", x, 3, 30);
        x.sends(3, 1, 0);
        spreads("sites 1 and 3 have all", x, 2, 10);
        x.reads(0, 1, 0);
        x.writes(0, 1, 0, 0, 2L);
        spreads("site 1 has replaced all", x, 3, 10);
        x.sends(1, 0, 0);
        spreads("sites 0 and 1 have it", x, 2, 2);
    }

    private static void spreadingBeginsLowest() {
        Check.at("promise 18: the lowest number with which a shortest sequence can begin, though not every one can");
        // 0 and 1 have the same news, 2 and 3 have others: to send from 0 to 1 would be in vain
        SideVersions x = Check.store("sites 4;whole;");
        x.writes(0, 0, 0, 0, 1L);
        x.sends(0, 1, 0);
        spreads("0 and 1 alike, 2 and 3 without", x, 2, 2);
        x.writes(0, 2, 0, 0, 1L);
        spreads("0 and 1 alike, 2 with its own", x, 4, 2);
        x.sends(2, 3, 0);
        spreads("0 and 1 alike, 2 and 3 alike", x, 4, 2);
    }

    private static void theTallyOfEachWrite() {
        Check.at("promise 20: how many writes have been replaced, merged, dropped, are lost; the count of false siblings");
        SideVersions x = Check.store("sites 4;bound 1;whole;bits;");
        for (int n = 1; n <= 40; n++) {
            for (int site = 0; site < 4; site++) {
                x.writes(0, site, 0, 0, n);
            }
        }
        long[] want = {0, 160, 0, 0, 156, 156, 0};
        for (int what = 0; what <= 6; what++) {
            Check.due("tally(0, " + what + ")", x.tally(0, what), want[what]);
            Check.due("tally(1, " + what + ")", x.tally(1, what), what == 0 ? 1 : 0);
        }
        SideVersions y = Check.store("sites 4;bound 6;whole;");
        for (int n = 1; n <= 5; n++) {
            y.writes(0, 0, 0, 0, n);
        }
        for (int to = 1; to < 4; to++) {
            y.sends(0, to, 0);
            y.reads(to, to, 0);
        }
        for (int to = 1; to < 4; to++) {
            y.writes(to, to, 0, 0, 9L);
        }
        Check.due("replaced at three sites, they count once each", y.tally(0, 2), 5);
        y.rules(0, 0);
        y.merges(0, 0);
        Check.due("merged at the fourth", y.tally(0, 3), 5);
        Check.due("replaced still", y.tally(0, 2), 5);
        Check.due("tally(0, 1)", y.tally(0, 1), 9);
    }

    private static void countsOfAllKeys() {
        Check.at("promise 21: the number of writes since the text was read");
        SideVersions x = Check.store("whole;whole;");
        x.rules(0, 0);
        x.writes(0, 0, 0, 0, 1L);
        x.writes(0, 0, 1, 0, 1L);
        x.writes(0, 0, 1, 1, 1L);
        x.writes(0, 0, 0, 0, 1L);
        x.merges(0, 1);
        Check.due("count(4)", x.count(4), 3);
        x.merges(0, 0);
        Check.due("count(4) with a merge", x.count(4), 4);
        x.sends(0, 1, 0);
        x.reads(0, 1, 0);
        Check.due("count(4) after a sending and a reading", x.count(4), 4);
        Check.type(x, "bits;");
        Check.due("count(5)", x.count(5), 5);
        Check.due("count(1) before the text is read", x.count(1), 2);
        x.tells();
        Check.due("count(4) after the text was read", x.count(4), 0);
        Check.due("count(5) after the text was read", x.count(5), 0);
        Check.due("count(1) after the text was read", x.count(1), 1);
    }
}
