/** The three examples of the document, call by call. */
public final class ExamplesTest {
    public static void main(String[] args) {
        first();
        second();
        third();
        Check.finish();
    }

    private static void typed(SideVersions x, String text) {
        for (int i = 0; i < text.length(); i++) {
            Check.due("type(" + (int) text.charAt(i) + ")", x.type(text.charAt(i)), i + 1);
        }
    }

    private static void first() {
        Check.at("example 1");
        SideVersions x = new SideVersions();
        typed(x, "whole;");
        Check.due("tells()", x.tells(), 1);
        Check.due("writes(0, 0, 0, 0, 5)", x.writes(0, 0, 0, 0, 5L), 1);
        Check.due("writes(1, 1, 0, 0, 7)", x.writes(1, 1, 0, 0, 7L), 1);
        Check.due("sends(0, 1, 0)", x.sends(0, 1, 0), 2);
        Check.due("spread(0, 0)", x.spread(0, 0), 2);
        Check.due("reads(2, 1, 0)", x.reads(2, 1, 0), 2);
        Check.due("writes(2, 1, 0, 0, 9)", x.writes(2, 1, 0, 0, 9L), 2);
        Check.due("sibling(1, 0, 0, 3)", x.sibling(1, 0, 0, 3), 9);
        Check.due("write(0, 0, 1, 4)", x.write(0, 0, 1, 4), 1);
        Check.due("behind(0, 0)", x.behind(0, 0), 2);
    }

    private static void second() {
        Check.at("example 2");
        SideVersions x = new SideVersions();
        typed(x, "bits;");
        Check.due("tells()", x.tells(), 1);
        Check.due("writes(0, 0, 0, 0, 1)", x.writes(0, 0, 0, 0, 1L), -4);
        Check.due("writes(0, 0, 0, 1, 5)", x.writes(0, 0, 0, 1, 5L), 1);
        Check.due("writes(0, 0, 0, 1, 6)", x.writes(0, 0, 0, 1, 6L), 2);
        Check.due("merges(0, 0)", x.merges(0, 0), -2);
        Check.due("rules(0, 3)", x.rules(0, 3), -9);
        Check.due("merges(0, 0)", x.merges(0, 0), 3);
        Check.due("sibling(0, 0, 0, 3)", x.sibling(0, 0, 0, 3), 4);
        Check.due("row(0, 0, 0)", x.row(0, 0, 0), 3);
        Check.due("ahead(0, 0, 1, 0, 3, 0)", x.ahead(0, 0, 1, 0, 3, 0), 1);
        Check.due("tally(0, 3)", x.tally(0, 3), 2);
    }

    private static void third() {
        Check.at("example 3");
        SideVersions x = new SideVersions();
        typed(x, "bound 7;");
        Check.due("tells()", x.tells(), -16);
        Check.due("clear()", x.clear(), 8);
        Check.due("tells()", x.tells(), 0);
        Check.due("blinds(0)", x.blinds(0), 0);
        Check.due("context(0, -1)", x.context(0, -1), -9);
        Check.due("context(0, 3)", x.context(0, 3), -1);
        Check.due("reads(0, 0, 0)", x.reads(0, 0, 0), -1);
        Check.due("count(5)", x.count(5), 0);
    }
}
