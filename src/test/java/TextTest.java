/** Promises 1 to 4 and 21: a new object, the text, and the counts. */
public final class TextTest {
    public static void main(String[] args) {
        newObject();
        type();
        clear();
        tellsItems();
        tellsFaults();
        tellsBlanksAndBytes();
        tellsBeginsAnew();
        tellsChangesNothingWithAFault();
        count();
        Check.finish();
    }

    private static void newObject() {
        Check.at("promise 1");
        SideVersions x = new SideVersions();
        Check.due("count(0)", x.count(0), 3);
        Check.due("count(1)", x.count(1), 0);
        Check.due("count(2)", x.count(2), 4);
        Check.due("count(3)", x.count(3), 4);
        Check.due("count(4)", x.count(4), 0);
        Check.due("count(5)", x.count(5), 0);
        Check.due("clear()", x.clear(), 0);
        Check.due("reads(0, 0, 0)", x.reads(0, 0, 0), Check.BAD);
        Check.due("tally(0, 0)", x.tally(0, 0), Check.BAD);
        Check.due("rule(0, 0)", x.rule(0, 0), Check.NONE);
        for (int client = 0; client < 4; client++) {
            Check.due("context(client, -1)", x.context(client, -1), Check.NONE);
            Check.due("context(client, 6)", x.context(client, 6), Check.NONE);
            Check.due("context(client, 7)", x.context(client, 7), Check.BAD);
        }
    }

    private static void type() {
        Check.at("promise 2");
        SideVersions x = new SideVersions();
        Check.due("type(-1)", x.type(-1), Check.BAD);
        Check.due("type(256)", x.type(256), Check.BAD);
        Check.due("type(MIN)", x.type(Integer.MIN_VALUE), Check.BAD);
        Check.due("type(MAX)", x.type(Integer.MAX_VALUE), Check.BAD);
        Check.due("type(0)", x.type(0), 1);
        Check.due("type(255)", x.type(255), 2);
        for (int i = 3; i <= 100; i++) {
            Check.due("type(32)", x.type(32), i);
        }
        Check.due("type(32)", x.type(32), Check.FULL);
        Check.due("type(256) when full", x.type(256), Check.BAD);
        Check.due("type(-1) when full", x.type(-1), Check.BAD);
        Check.due("count(5)", x.count(5), 100);
        Check.due("tells()", x.tells(), -10);
    }

    private static void clear() {
        Check.at("promise 3");
        SideVersions x = new SideVersions();
        Check.due("clear()", x.clear(), 0);
        Check.type(x, "abc");
        Check.due("clear()", x.clear(), 3);
        Check.due("count(5)", x.count(5), 0);
        Check.due("clear()", x.clear(), 0);
        Check.due("type(98)", x.type(98), 1);
        Check.type(x, " ".repeat(99));
        Check.due("clear() of a full text", x.clear(), 100);
        Check.type(x, "bits;");
        Check.due("tells()", x.tells(), 1);
        Check.due("count(1)", x.count(1), 1);
        Check.type(x, "zz");
        Check.due("clear()", x.clear(), 2);
        Check.due("clear() leaves the keys", x.count(1), 1);
    }

    private static void items(String text, int items, int sites, int keys, int bound, int limit) {
        SideVersions x = new SideVersions();
        Check.type(x, text);
        Check.due("tells() of '" + text + "'", x.tells(), items);
        Check.due("count(0) after '" + text + "'", x.count(0), sites);
        Check.due("count(1) after '" + text + "'", x.count(1), keys);
        Check.due("count(2) after '" + text + "'", x.count(2), bound);
        Check.due("count(3) after '" + text + "'", x.count(3), limit);
        Check.due("count(5) after '" + text + "'", x.count(5), 0);
    }

    private static void tellsItems() {
        Check.at("promise 4, items");
        items("", 0, 3, 0, 4, 4);
        items("   ", 0, 3, 0, 4, 4);
        items("whole;", 1, 3, 1, 4, 4);
        for (int n = 2; n <= 4; n++) {
            items("sites " + n + ";", 1, n, 0, 4, 4);
        }
        for (int n = 1; n <= 6; n++) {
            items("bound " + n + ";", 1, 3, 0, n, 4);
        }
        for (int n = 1; n <= 4; n++) {
            items("limit " + n + ";", 1, 3, 0, 4, n);
        }
        items("limit 2;bits;bound 6;whole;sites 4;bits;whole;", 7, 4, 4, 6, 2);
        items("sites2;bound1;limit3;bits;", 4, 2, 1, 1, 3);
        SideVersions x = Check.store("limit 2;bits;bound 6;whole;sites 4;bits;whole;");
        Check.due("tally(0, 0)", x.tally(0, 0), 1);
        Check.due("tally(1, 0)", x.tally(1, 0), 0);
        Check.due("tally(2, 0)", x.tally(2, 0), 1);
        Check.due("tally(3, 0)", x.tally(3, 0), 0);
        Check.due("tally(4, 0)", x.tally(4, 0), Check.BAD);
    }

    private static void fault(String text, int fault) {
        Check.due("tells() of '" + text + "'", Check.told(text), -10 - fault);
    }

    private static void tellsFaults() {
        Check.at("promise 4, faults");
        fault("sites 1;", 6);
        fault("sites 5;", 6);
        fault("sites 0;", 6);
        fault("bound 0;", 6);
        fault("bound 7;", 6);
        fault("limit 0;", 6);
        fault("limit 5;", 6);
        fault("sites 03;", 6);
        fault("sites 00;", 6);
        fault("sites 10;", 6);
        fault("sites 33;", 6);
        fault("sites 39;", 6);
        fault("sites 30;", 6);
        fault("sites 31;", 6);
        fault("sites 9;", 6);
        fault("sites 4294967299;", 6);
        fault("bound 18446744073709551617;", 6);
        fault("sites 3;sites 3;", 8);
        fault("bound 3;bound 3;", 8);
        fault("limit 3;limit 3;", 8);
        fault("limit 3;bits;limit", 13);
        fault("whole;bits;whole;bits;whole;", 22);
        fault("bits;bits;bits;bits;bits;", 20);
        fault("bits;bits;bits;bits;bound 2;sites 4;whole", 36);
        fault("sites", 5);
        fault("sites  ", 7);
        fault("sites 3", 7);
        fault("sites 3  ", 9);
        fault("whole", 5);
        fault("bits ", 5);
        fault("sites ;", 6);
        fault("sites 3 3;", 8);
        fault("sites 3bits;", 7);
        fault("sites whole;", 6);
        fault("whole 3;", 6);
        fault("whole bits;", 6);
        fault(";", 0);
        fault("3", 0);
        fault("whole;;", 6);
        fault("whole; 3", 7);
        fault("wholes;", 0);
        fault("whol;", 0);
        fault("xhole;", 0);
        fault("xits;", 0);
        fault("bita;", 0);
        fault("bitsz;", 0);
        fault("bitsa;", 0);
        fault("wholebits;", 0);
        fault("site 3;", 0);
        fault("sitesx3;", 0);
        fault("bound 3;x", 8);
        fault("a", 0);
        fault("  a", 2);
        // the first token that cannot stand counts, whatever follows
        fault("sites 9;sites 3;?", 6);
        fault("sites 3 ?", 8);
    }

    private static void tellsBlanksAndBytes() {
        Check.at("promise 4, blanks and bytes");
        Check.due("blanks everywhere", Check.told("  sites  4  ;  bits  ;  whole ;bits;  "), 4);
        fault("Whole;", 0);
        fault("wholE;", 0);
        fault("wholeE;", 5);
        fault("whole,", 5);
        fault("sites -3;", 6);
        fault("sites\t3;", 5);
        fault("whole;\n", 6);
        fault("whole;" + (char) 0, 6);
        fault("whole;" + (char) 160, 6);
        fault("sites " + (char) 255, 6);
        fault("`", 0);
        fault("{", 0);
        fault("sites /", 6);
        fault("sites :", 6);
        fault("whole;".repeat(16) + "abcd", 24);
        fault(" ".repeat(95) + "bits ", 100);
        Check.due("a text of 100 bytes", Check.told(" ".repeat(95) + "bits;"), 1);
        fault("sites " + "9".repeat(94), 6);
        fault("a".repeat(100), 0);
    }

    private static void tellsBeginsAnew() {
        Check.at("promise 4, everything begins anew");
        SideVersions x = Check.store("sites 4;bound 2;limit 1;bits;whole;");
        x.writes(0, 0, 1, 0, 7L);
        x.writes(0, 1, 1, 0, 7L);
        x.writes(0, 1, 0, 1, 7L);
        x.sends(0, 1, 1);
        x.reads(0, 1, 1);
        x.reads(3, 1, 0);
        x.reads(2, 1, 1);
        x.writes(2, 1, 1, 0, 3L);
        x.writes(2, 1, 1, 0, 3L);
        x.writes(2, 1, 1, 0, 3L);
        x.rules(0, 0);
        x.rules(1, 2);
        x.merges(1, 1);
        Check.type(x, "whole;whole;");
        Check.due("tells()", x.tells(), 2);
        Check.due("count(0)", x.count(0), 3);
        Check.due("count(1)", x.count(1), 2);
        Check.due("count(2)", x.count(2), 4);
        Check.due("count(3)", x.count(3), 4);
        Check.due("count(4)", x.count(4), 0);
        Check.due("rule(0, 0)", x.rule(0, 0), Check.NONE);
        Check.due("context(0, -1)", x.context(0, -1), Check.NONE);
        Check.due("blinds(3)", x.blinds(3), 0);
        for (int key = 0; key < 2; key++) {
            for (int what = 0; what <= 6; what++) {
                Check.due("tally(key, what)", x.tally(key, what), 0);
            }
            for (int site = 0; site < 3; site++) {
                Check.due("row(site, key, site)", x.row(site, key, site), 0);
                Check.due("sibling(site, key, 0, 0)", x.sibling(site, key, 0, 0), Check.NONE);
                Check.due("write(key, site, 1, 0)", x.write(key, site, 1, 0), Check.BAD);
            }
        }
        Check.due("writes(0, 0, 0, 0, 1)", x.writes(0, 0, 0, 0, 1L), 1);
        Check.due("its stamp", x.write(0, 0, 1, 1), 1);
        for (int what = 2; what <= 5; what++) {
            Check.due("write(0, 0, 1, what)", x.write(0, 0, 1, what), 0);
        }
        Check.due("writes(0, 1, 1, 0, 1)", x.writes(0, 1, 1, 0, 1L), 1);
        for (int what = 2; what <= 5; what++) {
            Check.due("write(1, 1, 1, what)", x.write(1, 1, 1, what), 0);
        }
        Check.due("tells() of an empty text", x.tells(), 0);
        Check.due("count(1) then", x.count(1), 0);
        Check.due("count(4) then", x.count(4), 0);
    }

    private static void tellsChangesNothingWithAFault() {
        Check.at("promise 4, a fault changes nothing");
        SideVersions x = Check.store("sites 2;bound 5;limit 3;bits;");
        x.writes(0, 1, 0, 1, 7L);
        x.reads(2, 1, 0);
        x.rules(0, 4);
        Check.type(x, "sites 4;bound 1;limit 1;whole;whole;a");
        Check.due("tells()", x.tells(), -46);
        Check.due("count(5)", x.count(5), 37);
        Check.due("tells() again", x.tells(), -46);
        Check.due("count(0)", x.count(0), 2);
        Check.due("count(1)", x.count(1), 1);
        Check.due("count(2)", x.count(2), 5);
        Check.due("count(3)", x.count(3), 3);
        Check.due("count(4)", x.count(4), 1);
        Check.due("tally(0, 0)", x.tally(0, 0), 1);
        Check.due("sibling(1, 0, 0, 3)", x.sibling(1, 0, 0, 3), 7);
        Check.due("context(2, 1)", x.context(2, 1), 1);
        Check.due("rule(0, 1)", x.rule(0, 1), 4);
        Check.due("writes(0, 1, 0, 1, 8)", x.writes(0, 1, 0, 1, 8L), 2);
        Check.due("its stamp", x.write(0, 1, 2, 1), 2);
        Check.due("clear()", x.clear(), 37);
        Check.type(x, "whole");
        Check.due("a text that ends too early", x.tells(), -15);
        x.type(';');
        Check.due("and is then ended", x.tells(), 1);
    }

    private static void count() {
        Check.at("promise 21");
        SideVersions x = Check.store("sites 4;bound 6;limit 2;bits;whole;");
        Check.type(x, "abc");
        x.writes(0, 0, 0, 1, 1L);
        x.writes(0, 0, 0, 1, 2L);
        x.writes(0, 3, 1, 0, 2L);
        x.writes(0, 3, 1, 1, 2L);
        x.rules(0, 0);
        x.merges(0, 0);
        Check.due("count(0)", x.count(0), 4);
        Check.due("count(1)", x.count(1), 2);
        Check.due("count(2)", x.count(2), 6);
        Check.due("count(3)", x.count(3), 2);
        Check.due("count(4)", x.count(4), 4);
        Check.due("count(5)", x.count(5), 3);
        Check.due("count(-1)", x.count(-1), Check.BAD);
        Check.due("count(6)", x.count(6), Check.BAD);
        Check.due("count(MIN)", x.count(Integer.MIN_VALUE), Check.BAD);
        Check.due("count(MAX)", x.count(Integer.MAX_VALUE), Check.BAD);
    }
}
