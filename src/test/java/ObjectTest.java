/** The object as a whole: its constants, that it stands alone, and that it answers for 512 calls. */
public final class ObjectTest {
    public static void main(String[] args) {
        constants();
        aNewObjectIsAsPromised();
        aNewObjectIsLikeOneThatWasToldNothing();
        objectsStandAlone();
        theLastOf512Calls();
        Check.finish();
    }

    private static void constants() {
        Check.at("the public face: the constants");
        Check.due("BAD", SideVersions.BAD, -1);
        Check.due("STATE", SideVersions.STATE, -2);
        Check.due("FULL", SideVersions.FULL, -3);
        Check.due("UNLIKE", SideVersions.UNLIKE, -4);
        Check.due("OVER", SideVersions.OVER, -5);
        Check.due("NONE", SideVersions.NONE, -9);
    }

    private static void aNewObjectIsAsPromised() {
        Check.at("promise 1: 3 sites, the bound 4 and the limit 4, without keys, with an empty text");
        long[] counts = {3, 0, 4, 4, 0, 0};
        for (int what = 0; what < counts.length; what++) {
            Check.due("count(" + what + ")", new SideVersions().count(what), counts[what]);
        }
        SideVersions x = new SideVersions();
        Check.due("context(0, 2): there is a site 2", x.context(0, 2), Check.NONE);
        Check.due("context(0, 3): there is no site 3", x.context(0, 3), Check.BAD);
        Check.due("tally(0, 0): there is no key 0", x.tally(0, 0), Check.BAD);
        Check.due("clear()", x.clear(), 0);
        Check.due("type(0)", x.type(0), 1);
    }

    private static void aNewObjectIsLikeOneThatWasToldNothing() {
        Check.at("promises 1 and 4: the empty text gives what a new object has");
        Twins twins = new Twins(4, 1, 1);
        twins.same("tells() of nothing", x -> Check.due("tells()", x.tells(), 0), x -> { });
        twins.same("clear() of nothing", x -> Check.due("clear()", x.clear(), 0), x -> { });
    }

    private static void objectsStandAlone() {
        Check.at("promise 1: an object knows nothing of another");
        SideVersions one = Check.store("sites 4;bound 1;limit 1;bits;");
        SideVersions other = new SideVersions();
        one.writes(0, 0, 0, 1, 5L);
        one.reads(0, 0, 0);
        one.rules(0, 0);
        one.type('x');
        Check.due("count(0) of the other", other.count(0), 3);
        Check.due("count(4) of the other", other.count(4), 0);
        Check.due("count(5) of the other", other.count(5), 0);
        Check.due("context(0, -1) of the other", other.context(0, -1), Check.NONE);
        Check.due("rule(0, 0) of the other", other.rule(0, 0), Check.NONE);
        Check.type(other, "whole;");
        Check.due("tells() of the other", other.tells(), 1);
        Check.due("writes(1, 0, 0, 0, 6) of the other", other.writes(1, 0, 0, 0, 6L), 1);
        Check.due("write(0, 0, 1, 1) of the other", other.write(0, 0, 1, 1), 1);
        Check.due("sibling(0, 0, 0, 3) of the one", one.sibling(0, 0, 0, 3), 5);
        Check.due("count(5) of the one", one.count(5), 1);
    }

    /** A store of four keys at four sites after 33 calls and as many writes as are said. */
    private static SideVersions written(int writes) {
        SideVersions x = Check.store("sites 4;whole;whole;whole;whole;");
        for (int i = 0; i < writes; i++) {
            Check.due("writes, the " + (i + 1) + "th", x.writes(i % 4, i / 4 % 4, i % 4, 0, i), i / 16 + 1);
        }
        return x;
    }

    private static void theLastOf512Calls() {
        Check.at("the 512th call");
        Check.due("count(4)", written(478).count(4), 478);
        Check.due("the stamp of the write before", written(478).write(1, 3, 30, 1), 478);
        Check.due("its value", written(478).sibling(3, 1, 3, 3), 477);
        Check.due("spread(3, 0)", written(478).spread(3, 0), 6);
        Check.due("writes(0, 0, 0, 0, 1)", written(478).writes(0, 0, 0, 0, 1L), 31);
        Check.due("writes(0, 3, 3, 0, 1)", written(478).writes(0, 3, 3, 0, 1L), 30);
    }
}
