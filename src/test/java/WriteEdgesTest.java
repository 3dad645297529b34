/** Promises 5 to 8: every sentence on reading, writing and sending that names an edge. */
public final class WriteEdgesTest {
    public static void main(String[] args) {
        fortyWritesAtEachSite();
        fortyWritesWithContexts();
        fortyWritesWithMerges();
        the40thIsPrunedAndSent();
        numbersGoOn();
        stampsOfAllKeys();
        theBoundByWrites();
        theBoundBySends();
        theBoundIsNotPassedByReplacing();
        whatIsDroppedDoesNotComeBack();
        droppedOnceOrAtManySites();
        theLimit();
        theLowestStampIsPruned();
        theStampOfThisNumber();
        readingNothing();
        seenAreAllSiblings();
        blindClients();
        theContextOfAnotherKey();
        whatToldCovers();
        whatKnownCoversAlone();
        theRowTakesTheGreater();
        whatIsSent();
        Check.finish();
    }

    private static void fortyWritesAtEachSite() {
        Check.at("there are at most 40; FULL if n would be 41");
        for (int sites = 2; sites <= 4; sites++) {
            for (int site = 0; site < sites; site++) {
                SideVersions x = Check.store("sites " + sites + ";whole;bits;");
                for (int n = 1; n <= 40; n++) {
                    Check.due("writes at " + site + ", the " + n + "th", x.writes(n % 4, site, 1, 1, n), n);
                }
                Check.due("writes at " + site + ", the 41st", x.writes(0, site, 1, 1, 41L), Check.FULL);
                Check.due("row then", x.row(site, 1, site), 40);
                Check.due("write of the 40th", x.write(1, site, 40, 0), 40);
                Check.due("write of the 41st", x.write(1, site, 41, 0), Check.BAD);
                Check.due("write of the 0th", x.write(1, site, 0, 0), Check.BAD);
                Check.due("the 40th is a sibling", x.sibling(site, 1, 3, 1), 40);
                Check.due("so is the 37th", x.sibling(site, 1, 0, 1), 37);
                Check.due("36 are dropped", x.tally(1, 4), 36);
                Check.due("count(4)", x.count(4), 40);
                for (int other = 0; other < sites; other++) {
                    Check.due("at site " + other, x.writes(0, other, 1, 1, 1L), other == site ? Check.FULL : 1);
                    Check.due("of the other key at " + other, x.writes(0, other, 0, 0, 1L), 1);
                }
                Check.due("write of the 40th still", x.write(1, site, 40, 0), 40);
            }
        }
    }

    private static void fortyWritesWithContexts() {
        Check.at("the 41st write of a client that has read");
        SideVersions x = Check.store("whole;");
        for (int n = 1; n <= 40; n++) {
            Check.due("reads, the " + n + "th", x.reads(2, 1, 0), n == 1 ? 0 : 1);
            Check.due("writes, the " + n + "th", x.writes(2, 1, 0, 0, n), n);
        }
        Check.due("tally(0, 2)", x.tally(0, 2), 39);
        Check.due("ahead of the 39th by the 40th", x.ahead(0, 1, 39, 1, 40, 0), 1);
        Check.due("ahead of the 40th by itself", x.ahead(0, 1, 40, 1, 40, 0), 0);
        Check.due("ahead of the 40th by the 39th", x.ahead(0, 1, 40, 1, 39, 1), 0);
        x.reads(2, 1, 0);
        Check.due("context(2, 1)", x.context(2, 1), 40);
        Check.due("context(2, 5)", x.context(2, 5), 40);
        Check.due("writes, the 41st", x.writes(2, 1, 0, 0, 41L), Check.FULL);
        Check.due("the context stays", x.context(2, 1), 40);
        Check.due("the sibling stays", x.sibling(1, 0, 0, 1), 40);
        Check.due("at another site it is the first", x.writes(2, 0, 0, 0, 41L), 1);
        Check.due("row(0, 0, 1)", x.row(0, 0, 1), 40);
        Check.due("behind(0, 0)", x.behind(0, 0), 0);
        Check.due("behind(1, 0)", x.behind(1, 0), 1);
        Check.due("behind(2, 0)", x.behind(2, 0), 41);
    }

    private static void fortyWritesWithMerges() {
        Check.at("a merge counts among the 40");
        SideVersions x = Check.store("whole;");
        x.rules(0, 0);
        for (int n = 1; n <= 38; n++) {
            x.writes(0, 2, 0, 0, n);
        }
        Check.due("merges(2, 0), the 39th", x.merges(2, 0), 39);
        Check.due("writes, the 40th", x.writes(0, 2, 0, 0, 50L), 40);
        Check.due("merges(2, 0), the 41st", x.merges(2, 0), Check.FULL);
        Check.due("writes, the 41st", x.writes(0, 2, 0, 0, 50L), Check.FULL);
        Check.due("tally(0, 1)", x.tally(0, 1), 40);
        SideVersions y = Check.store("whole;");
        y.rules(0, 1);
        for (int n = 1; n <= 39; n++) {
            y.writes(0, 2, 0, 0, n);
        }
        Check.due("merges(2, 0), the 40th", y.merges(2, 0), 40);
        Check.due("its value", y.write(0, 2, 40, 0), 36);
        Check.due("writes, the 41st", y.writes(0, 2, 0, 0, 50L), Check.FULL);
    }

    private static void the40thIsPrunedAndSent() {
        Check.at("the number 40 in rows, contexts and siblings");
        for (int site = 0; site < 4; site++) {
            int to = (site + 1) % 4;
            SideVersions x = Check.store("sites 4;bound 6;limit 1;whole;");
            for (int n = 1; n <= 40; n++) {
                x.writes(0, site, 0, 0, n);
            }
            for (int other = 0; other < 4; other++) {
                if (other != site) {
                    x.writes(0, other, 0, 0, 100L + other);
                }
            }
            Check.due("sends to " + to, x.sends(site, to, 0), 6);
            for (int s = 0; s < 4; s++) {
                Check.due("row(" + to + ", 0, " + s + ")", x.row(to, 0, s), s == site ? 40 : s == to ? 1 : 0);
            }
            x.reads(1, to, 0);
            for (int s = 0; s < 4; s++) {
                Check.due("context(1, " + s + ")", x.context(1, s), s == site ? 40 : s == to ? 1 : 0);
                Check.due("context(1, 4 + " + s + ")", x.context(1, 4 + s), s == to ? 1 : 0);
            }
            Check.due("alike", x.alike(site, to, 0), 0);
            Check.due("write of the 40th is at both", x.write(0, site, 40, 6), 1 << site | 1 << to);
            Check.due("write of the 35th is at one", x.write(0, site, 35, 6), 1 << site);
            Check.due("write of the 35th is dropped", x.write(0, site, 35, 3), 1);
            Check.due("write of the 34th is at none", x.write(0, site, 34, 6), 0);
            Check.due("behind of a third", x.behind((site + 2) % 4, 0), 42);
        }
    }

    private static void numbersGoOn() {
        Check.at("n is the number in the row of the site before, plus 1");
        SideVersions x = Check.store("bound 1;whole;whole;");
        Check.due("the first", x.writes(0, 0, 0, 0, 1L), 1);
        Check.due("the first of another key", x.writes(0, 0, 1, 0, 1L), 1);
        Check.due("the first at another site", x.writes(0, 1, 0, 0, 1L), 1);
        Check.due("the second, when the first is dropped", x.writes(0, 0, 0, 0, 1L), 2);
        x.reads(1, 0, 0);
        Check.due("the third, which replaces the second", x.writes(1, 0, 0, 0, 1L), 3);
        x.sends(0, 1, 0);
        Check.due("the second at another site, after a sending", x.writes(0, 1, 0, 0, 1L), 2);
        x.sends(1, 0, 0);
        Check.due("the fourth", x.writes(0, 0, 0, 0, 1L), 4);
        Check.due("row(0, 0, 1)", x.row(0, 0, 1), 2);
    }

    private static void stampsOfAllKeys() {
        Check.at("all writes, of all keys, are numbered from 1 in the order in which they are made");
        SideVersions x = Check.store("sites 2;whole;bits;");
        x.rules(0, 0);
        x.writes(0, 1, 1, 1, 1L);
        x.writes(0, 0, 0, 0, 1L);
        x.writes(0, 0, 0, 1, 1L);
        x.writes(0, 0, 0, 0, 2L);
        x.merges(0, 0);
        x.merges(0, 0);
        x.sends(0, 1, 0);
        x.reads(0, 1, 1);
        x.writes(0, 1, 1, 1, 1L);
        Check.due("write(1, 1, 1, 1)", x.write(1, 1, 1, 1), 1);
        Check.due("write(0, 0, 1, 1)", x.write(0, 0, 1, 1), 2);
        Check.due("write(0, 0, 2, 1)", x.write(0, 0, 2, 1), 3);
        Check.due("write(0, 0, 3, 1), a merge", x.write(0, 0, 3, 1), 4);
        Check.due("write(1, 1, 2, 1)", x.write(1, 1, 2, 1), 5);
        Check.due("count(4)", x.count(4), 5);
    }

    private static void theBoundByWrites() {
        Check.at("whenever a site has more siblings of a key than the bound, by writes");
        for (int bound = 1; bound <= 6; bound++) {
            SideVersions x = Check.store("bound " + bound + ";whole;whole;");
            for (int n = 1; n <= bound; n++) {
                x.writes(0, 0, 0, 0, n);
                x.writes(0, 0, 1, 0, n);
                x.writes(0, 1, 0, 0, n);
            }
            Check.due("tally(0, 4) at the bound " + bound, x.tally(0, 4), 0);
            Check.due("the last sibling at the bound " + bound, x.sibling(0, 0, bound - 1, 1), bound);
            x.writes(0, 0, 0, 0, 9L);
            Check.due("tally(0, 4) beyond the bound " + bound, x.tally(0, 4), 1);
            Check.due("tally(1, 4) of another key", x.tally(1, 4), 0);
            Check.due("the first is dropped", x.write(0, 0, 1, 3), 1);
            Check.due("the second is not", bound == 1 ? 0 : x.write(0, 0, 2, 3), 0);
            Check.due("the first at another site is not", x.write(0, 1, 1, 3), 0);
            Check.due("reads(0, 0, 0)", x.reads(0, 0, 0), bound);
            Check.due("sibling behind the last", x.sibling(0, 0, bound, 0), Check.NONE);
            Check.due("row(0, 0, 0)", x.row(0, 0, 0), bound + 1);
        }
    }

    private static void theBoundBySends() {
        Check.at("whenever a site has more siblings of a key than the bound, by sendings");
        for (int bound = 1; bound <= 6; bound++) {
            for (int sent = 1; sent <= bound; sent++) {
                SideVersions x = Check.store("bound " + bound + ";whole;");
                for (int n = 1; n <= bound; n++) {
                    x.writes(0, 1, 0, 0, n);
                }
                for (int n = 1; n <= sent; n++) {
                    x.writes(0, 0, 0, 0, n);
                }
                Check.due("sends of " + sent + " to " + bound, x.sends(0, 1, 0), bound);
                Check.due("tally(0, 4) of " + sent + " to " + bound, x.tally(0, 4), sent);
                for (int n = 1; n <= bound; n++) {
                    Check.due("write(0, 1, " + n + ", 3)", x.write(0, 1, n, 3), n <= sent ? 1 : 0);
                }
                Check.due("what is sent stays where it was", x.reads(0, 0, 0), sent);
            }
        }
        SideVersions y = Check.store("bound 2;whole;");
        y.writes(0, 0, 0, 0, 1L);
        y.writes(0, 1, 0, 0, 2L);
        y.writes(0, 1, 0, 0, 3L);
        Check.due("what is sent may be the oldest", y.sends(0, 1, 0), 2);
        Check.due("write(0, 0, 1, 3)", y.write(0, 0, 1, 3), 1);
        Check.due("write(0, 0, 1, 6)", y.write(0, 0, 1, 6), 1);
        Check.due("row(1, 0, 0) covers it all the same", y.row(1, 0, 0), 1);
    }

    private static void theBoundIsNotPassedByReplacing() {
        Check.at("what is replaced makes room under the bound");
        for (int bound = 1; bound <= 6; bound++) {
            SideVersions x = Check.store("bound " + bound + ";whole;");
            for (int n = 1; n <= bound; n++) {
                x.writes(0, 0, 0, 0, n);
            }
            x.reads(0, 0, 0);
            x.writes(0, 0, 0, 0, 9L);
            Check.due("tally(0, 4)", x.tally(0, 4), 0);
            Check.due("tally(0, 2)", x.tally(0, 2), bound);
            Check.due("reads(0, 0, 0)", x.reads(0, 0, 0), 1);
        }
    }

    private static void whatIsDroppedDoesNotComeBack() {
        Check.at("a write that was dropped is covered by the row, so no sending brings it back");
        SideVersions x = Check.store("bound 1;whole;");
        x.writes(0, 0, 0, 0, 1L);
        x.sends(0, 1, 0);
        x.writes(0, 1, 0, 0, 2L);
        Check.due("write(0, 0, 1, 3)", x.write(0, 0, 1, 3), 1);
        Check.due("sends(0, 1, 0)", x.sends(0, 1, 0), 1);
        Check.due("sibling(1, 0, 0, 3)", x.sibling(1, 0, 0, 3), 2);
        Check.due("write(0, 0, 1, 6)", x.write(0, 0, 1, 6), 1);
        Check.due("sends(1, 0, 0)", x.sends(1, 0, 0), 1);
        Check.due("it goes at the other site too", x.write(0, 0, 1, 6), 0);
        Check.due("and is lost, as nobody saw it", x.write(0, 0, 1, 7), 1);
        Check.due("but it was dropped once", x.tally(0, 4), 1);
    }

    private static void droppedOnceOrAtManySites() {
        Check.at("whether it has been dropped at some site, and how many of them have been dropped");
        SideVersions x = Check.store("bound 1;whole;");
        x.writes(0, 0, 0, 0, 1L);
        x.sends(0, 1, 0);
        x.writes(0, 0, 0, 0, 2L);
        x.writes(0, 1, 0, 0, 3L);
        Check.due("dropped at two sites, it counts once", x.tally(0, 4), 1);
        Check.due("write(0, 0, 1, 3)", x.write(0, 0, 1, 3), 1);
        Check.due("write(0, 0, 1, 4) is not replaced", x.write(0, 0, 1, 4), 0);
        Check.due("write(0, 0, 1, 5) is not merged", x.write(0, 0, 1, 5), 0);
        Check.due("write(0, 0, 1, 2) is not seen", x.write(0, 0, 1, 2), 0);
        Check.due("tally(0, 5)", x.tally(0, 5), 1);
    }

    /** Site 0 has read from the first sites, so many of its numbers are above 0. */
    private static SideVersions rowOf(int above, int limit) {
        SideVersions x = Check.store("sites 4;bound 6;limit " + limit + ";whole;");
        for (int site = 0; site < above; site++) {
            x.writes(0, site, 0, 0, 1L);
            if (site > 0) {
                x.sends(site, 0, 0);
            }
        }
        return x;
    }

    private static void theLimit() {
        Check.at("as long as more than limit of its numbers are above 0");
        for (int limit = 1; limit <= 4; limit++) {
            for (int above = 0; above <= 4; above++) {
                SideVersions x = rowOf(above, limit);
                String name = "limit " + limit + ", " + above + " above 0: ";
                Check.due(name + "reads(3, 0, 0)", x.reads(3, 0, 0), above);
                for (int s = 0; s < 4; s++) {
                    boolean stays = s < above && s >= above - limit;
                    Check.due(name + "context(3, " + s + ")", x.context(3, s), s < above ? 1 : 0);
                    Check.due(name + "context(3, 4 + " + s + ")", x.context(3, 4 + s), stays ? 1 : 0);
                }
            }
        }
    }

    private static void theLowestStampIsPruned() {
        Check.at("for which the write with the dot has the lowest stamp");
        int[][] orders = {{0, 1, 2}, {0, 2, 1}, {1, 0, 2}, {1, 2, 0}, {2, 0, 1}, {2, 1, 0}};
        for (int[] order : orders) {
            for (int limit = 1; limit <= 3; limit++) {
                SideVersions x = Check.store("limit " + limit + ";whole;");
                for (int site : order) {
                    x.writes(0, site, 0, 0, 1L);
                }
                x.sends(0, 2, 0);
                x.sends(1, 2, 0);
                x.reads(1, 2, 0);
                for (int i = 0; i < 3; i++) {
                    Check.due("context of the one with the stamp " + (i + 1), x.context(1, 4 + order[i]), i >= 3 - limit ? 1 : 0);
                }
            }
        }
    }

    private static void theStampOfThisNumber() {
        Check.at("the stamp is that of the write with this number, not of an older one of the site");
        SideVersions x = Check.store("sites 2;bound 1;limit 1;whole;whole;");
        x.writes(0, 0, 0, 0, 1L);
        x.writes(0, 0, 1, 0, 1L);
        x.writes(0, 1, 0, 0, 1L);
        x.writes(0, 1, 1, 0, 1L);
        x.writes(0, 0, 0, 0, 1L);
        x.sends(0, 1, 0);
        x.sends(0, 1, 1);
        x.reads(0, 1, 0);
        Check.due("context(0, 4): site 0 has written last", x.context(0, 4), 2);
        Check.due("context(0, 5)", x.context(0, 5), 0);
        x.reads(0, 1, 1);
        Check.due("context(0, 4) of the other key", x.context(0, 4), 0);
        Check.due("context(0, 5) of the other key", x.context(0, 5), 1);
        // the write that counts may be gone: here it is dropped, and at the other site replaced
        SideVersions y = Check.store("sites 2;bound 1;limit 1;whole;");
        y.writes(0, 1, 0, 0, 1L);
        y.writes(0, 0, 0, 0, 1L);
        y.sends(1, 0, 0);
        y.reads(2, 0, 0);
        Check.due("context(2, 0)", y.context(2, 0), 1);
        Check.due("context(2, 1)", y.context(2, 1), 1);
        Check.due("context(2, 4)", y.context(2, 4), 1);
        Check.due("context(2, 5)", y.context(2, 5), 0);
    }

    private static void readingNothing() {
        Check.at("a client that reads a site without siblings has a context");
        SideVersions x = Check.store("sites 4;whole;whole;");
        Check.due("reads(1, 3, 1)", x.reads(1, 3, 1), 0);
        Check.due("context(1, -1)", x.context(1, -1), 1);
        for (int what = 0; what < 8; what++) {
            Check.due("context(1, " + what + ")", x.context(1, what), 0);
        }
        Check.due("blinds(1)", x.blinds(1), 1);
        Check.due("blinds(1) again", x.blinds(1), 0);
    }

    private static void seenAreAllSiblings() {
        Check.at("all siblings of the key at the site have been seen then");
        SideVersions x = Check.store("bound 3;whole;whole;");
        for (int n = 1; n <= 4; n++) {
            x.writes(0, 0, 0, 0, n);
        }
        x.writes(0, 0, 1, 0, 1L);
        x.writes(0, 1, 0, 0, 1L);
        x.reads(3, 0, 0);
        Check.due("the one that was dropped", x.write(0, 0, 1, 2), 0);
        for (int n = 2; n <= 4; n++) {
            Check.due("the sibling " + n, x.write(0, 0, n, 2), 1);
        }
        Check.due("of another key", x.write(1, 0, 1, 2), 0);
        Check.due("at another site", x.write(0, 1, 1, 2), 0);
        x.sends(0, 1, 0);
        Check.due("sent on, it is still seen", x.write(0, 0, 2, 2), 1);
        x.writes(0, 1, 0, 0, 2L);
        Check.due("a later one", x.write(0, 1, 2, 2), 0);
    }

    private static void blindClients() {
        Check.at("a client is blind at first, after a write of the key that it read, and when it is made blind");
        for (int client = 0; client < 4; client++) {
            SideVersions x = Check.store("whole;");
            Check.due("blinds at first", x.blinds(client), 0);
            Check.due("context at first", x.context(client, -1), Check.NONE);
            x.writes(client, 0, 0, 0, 1L);
            Check.due("a blind client writes and stays blind", x.blinds(client), 0);
            x.reads(client, 0, 0);
            Check.due("context after reading", x.context(client, -1), 0);
            x.writes(client, 1, 0, 0, 2L);
            Check.due("blinds after a write at another site", x.blinds(client), 0);
            x.reads(client, 0, 0);
            Check.due("blinds after reading", x.blinds(client), 1);
            Check.due("context then", x.context(client, 4), Check.NONE);
            for (int other = 0; other < 4; other++) {
                Check.due("the other clients are blind", x.blinds(other), 0);
            }
            x.writes(client, 0, 0, 0, 3L);
            Check.due("what a blind client writes replaces nothing", x.reads(client, 0, 0), 2);
            Check.due("and tells nothing", x.ahead(0, 0, 1, 0, 2, 0), 0);
            Check.due("and knows nothing", x.ahead(0, 0, 1, 0, 2, 1), 0);
        }
    }

    private static void theContextOfAnotherKey() {
        Check.at("otherwise they are all 0, and the context stays");
        SideVersions x = Check.store("whole;whole;");
        x.writes(0, 0, 0, 0, 1L);
        x.writes(0, 0, 1, 0, 1L);
        x.reads(0, 0, 0);
        Check.due("writes(0, 0, 1, 0, 2)", x.writes(0, 0, 1, 0, 2L), 2);
        Check.due("ahead(1, 0, 1, 0, 2, 0)", x.ahead(1, 0, 1, 0, 2, 0), 0);
        Check.due("ahead(1, 0, 1, 0, 2, 1)", x.ahead(1, 0, 1, 0, 2, 1), 0);
        Check.due("tally(1, 2)", x.tally(1, 2), 0);
        Check.due("context(0, -1)", x.context(0, -1), 0);
        Check.due("context(0, 0)", x.context(0, 0), 1);
        Check.due("context(0, 4)", x.context(0, 4), 1);
        Check.due("writes(0, 0, 0, 0, 2)", x.writes(0, 0, 0, 0, 2L), 2);
        Check.due("tally(0, 2)", x.tally(0, 2), 1);
        Check.due("context(0, -1) then", x.context(0, -1), Check.NONE);
    }

    private static void whatToldCovers() {
        Check.at("a row covers the dot (s, n) if its number for s is at least n; told covered ones are replaced");
        for (int seen = 0; seen <= 4; seen++) {
            SideVersions x = Check.store("bound 6;whole;");
            for (int n = 1; n <= 4; n++) {
                if (n == seen + 1) {
                    x.reads(1, 0, 0);
                }
                x.writes(0, 0, 0, 0, n);
            }
            if (seen == 4) {
                x.reads(1, 0, 0);
            }
            Check.due("the fifth, which knows " + seen, x.writes(1, 0, 0, 0, 5L), 5);
            Check.due("tally(0, 2)", x.tally(0, 2), seen);
            Check.due("tally(0, 6)", x.tally(0, 6), 0);
            for (int n = 1; n <= 5; n++) {
                boolean covered = n <= seen;
                Check.due("write(0, 0, " + n + ", 4)", x.write(0, 0, n, 4), covered ? 1 : 0);
                Check.due("write(0, 0, " + n + ", 6)", x.write(0, 0, n, 6), covered ? 0 : 1);
                Check.due("ahead(0, 0, " + n + ", 0, 5, 0)", x.ahead(0, 0, n, 0, 5, 0), covered ? 1 : 0);
                Check.due("ahead(0, 0, " + n + ", 0, 5, 1)", x.ahead(0, 0, n, 0, 5, 1), covered ? 1 : 0);
            }
        }
    }

    private static void whatKnownCoversAlone() {
        Check.at("a sibling that known covers, but told does not, stays and counts as a false sibling once more");
        for (int limit = 1; limit <= 4; limit++) {
            SideVersions x = Check.store("sites 4;bound 6;limit " + limit + ";whole;");
            for (int site = 0; site < 4; site++) {
                x.writes(0, site, 0, 0, site);
                x.sends(site, 3, 0);
            }
            x.reads(0, 3, 0);
            Check.due("tally(0, 6) before", x.tally(0, 6), 0);
            x.writes(0, 3, 0, 0, 9L);
            Check.due("tally(0, 6) of limit " + limit, x.tally(0, 6), 4 - limit);
            Check.due("tally(0, 2) of limit " + limit, x.tally(0, 2), limit);
            Check.due("they stay", x.reads(1, 3, 0), 5 - limit);
            // made since the reading, a sibling is not known and does not count
            x.writes(2, 3, 0, 0, 10L);
            x.writes(1, 3, 0, 0, 11L);
            Check.due("tally(0, 6) once more, limit " + limit, x.tally(0, 6), 2 * (4 - limit));
            Check.due("the later one stays too", x.reads(1, 3, 0), 4 - limit + 2);
        }
    }

    private static void theRowTakesTheGreater() {
        Check.at("each number becomes the greater one of itself and that of told, and the number for s becomes n");
        SideVersions x = Check.store("limit 2;whole;");
        x.writes(0, 0, 0, 0, 1L);
        x.writes(0, 1, 0, 0, 1L);
        x.writes(0, 1, 0, 0, 1L);
        x.sends(1, 0, 0);
        x.reads(1, 0, 0);
        x.writes(0, 1, 0, 0, 1L);
        x.writes(0, 2, 0, 0, 1L);
        x.sends(1, 2, 0);
        x.writes(1, 2, 0, 0, 2L);
        Check.due("row(2, 0, 0) is told", x.row(2, 0, 0), 1);
        Check.due("row(2, 0, 1) was greater", x.row(2, 0, 1), 3);
        Check.due("row(2, 0, 2) is n", x.row(2, 0, 2), 2);
        Check.at("what is pruned from told does not come into the row");
        SideVersions y = Check.store("limit 1;whole;");
        y.writes(0, 0, 0, 0, 1L);
        y.writes(0, 1, 0, 0, 1L);
        y.sends(0, 1, 0);
        y.reads(1, 1, 0);
        y.writes(1, 2, 0, 0, 2L);
        Check.due("row(2, 0, 0)", y.row(2, 0, 0), 0);
        Check.due("row(2, 0, 1)", y.row(2, 0, 1), 1);
        Check.due("row(2, 0, 2)", y.row(2, 0, 2), 1);
        // told may name a write of the site itself that is not there any more: n goes by the row
        y.reads(2, 1, 0);
        y.writes(0, 1, 0, 0, 3L);
        Check.due("writes(2, 1, 0, 0, 4)", y.writes(2, 1, 0, 0, 4L), 3);
    }

    private static void whatIsSent() {
        Check.at("those that both had, those of b that a does not cover, those of a that b does not cover");
        SideVersions x = Check.store("bound 6;whole;");
        x.writes(0, 0, 0, 0, 1L);
        x.sends(0, 1, 0);
        x.sends(0, 2, 0);
        x.writes(0, 0, 0, 0, 2L);
        x.writes(0, 1, 0, 0, 3L);
        Check.due("sends(0, 1, 0)", x.sends(0, 1, 0), 3);
        Check.due("both had it", x.write(0, 0, 1, 6), 7);
        Check.due("only a had it", x.write(0, 0, 2, 6), 3);
        Check.due("only b had it", x.write(0, 1, 1, 6), 2);
        x.reads(0, 0, 0);
        x.writes(0, 0, 0, 0, 4L);
        Check.due("sends(0, 1, 0) of a write that replaced two", x.sends(0, 1, 0), 2);
        Check.due("a covers it and has it no more", x.write(0, 0, 1, 6), 4);
        Check.due("sends(1, 0, 0)", x.sends(1, 0, 0), 2);
        Check.due("sends(2, 0, 0): a covers what c still has", x.sends(2, 0, 0), 2);
        Check.due("tally(0, 2): what a sending removes is not replaced", x.tally(0, 2), 2);
        Check.due("tally(0, 4): nor dropped", x.tally(0, 4), 0);
        Check.due("alike(0, 1, 0)", x.alike(0, 1, 0), 1);
        Check.due("no sibling is seen by sending", x.write(0, 1, 1, 2), 0);
    }
}
