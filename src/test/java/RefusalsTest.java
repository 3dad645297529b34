/** Error codes: which one is returned if several apply, and that a call that returns one changes nothing. */
public final class RefusalsTest {
    private static final long GREATEST = Long.MAX_VALUE;
    private static final int FAR = Integer.MAX_VALUE;

    private static final Twins FEW = new Twins(3, 3, 1, 2, 3, 4);
    private static final Twins MANY = new Twins(3, 2, 1, 2, 38, 39, 40, 41);

    public static void main(String[] args) {
        typing();
        badDeeds();
        badWrites();
        unlikeWrites();
        fullWrites();
        badRules();
        merging();
        mergingWithoutRoom();
        mergingOver();
        noneOnlyIfNoErrorApplies();
        badQuestions();
        askingChangesNothing();
        Check.finish();
    }

    /** Clients 2 and 3 know key 0, client 1 key 1; some writes are replaced, dropped, merged, false; a text is begun. */
    private static void rich(SideVersions x) {
        Check.type(x, "sites 3;bound 2;limit 1;whole;bits;whole;");
        x.tells();
        Check.type(x, "bits");
        x.writes(0, 0, 0, 0, 5L);
        x.writes(1, 1, 0, 0, 7L);
        x.sends(0, 1, 0);
        x.reads(2, 1, 0);
        x.writes(2, 1, 0, 0, 9L);
        x.reads(2, 1, 0);
        x.writes(3, 2, 0, 0, -3L);
        x.sends(1, 2, 0);
        x.reads(3, 2, 0);
        for (int n = 1; n <= 3; n++) {
            x.writes(0, 1, 1, 1, n);
            x.writes(0, 0, 2, 0, n);
        }
        x.writes(0, 2, 1, 1, 6L);
        x.reads(1, 1, 1);
        x.rules(2, 0);
        x.merges(0, 2);
        x.rules(1, 2);
    }

    /** Site 1 has made 40 writes of key 0, site 2 of key 1; clients 0 and 1 know the older ones, the last are unseen. */
    private static void full(SideVersions x) {
        Check.type(x, "sites 3;whole;bits;");
        x.tells();
        for (int n = 1; n <= 40; n++) {
            x.writes(2, 1, 0, 0, GREATEST - n);
            x.writes(2, 2, 1, 1, GREATEST - n);
            if (n == 38) {
                x.reads(0, 1, 0);
                x.reads(1, 2, 1);
            }
        }
    }

    private static void fullWithRule(SideVersions x) {
        full(x);
        x.rules(0, 2);
        x.rules(1, 3);
    }

    private static void fewer(String name, long code, Twins.Call call) {
        FEW.refused(name, RefusalsTest::rich, code, call);
    }

    private static void filled(String name, long code, Twins.Call call) {
        MANY.refused(name, RefusalsTest::full, code, call);
        MANY.refused(name + ", with rules", RefusalsTest::fullWithRule, code, call);
    }

    private static void typing() {
        Check.at("promise 2: BAD, then FULL");
        for (int letter : new int[] {-1, 256, Integer.MIN_VALUE, FAR}) {
            fewer("type(" + letter + ")", Check.BAD, x -> x.type(letter));
        }
        Twins.Run long100 = x -> {
            rich(x);
            x.clear();
            Check.type(x, " ".repeat(94) + "whole;");
        };
        for (int letter : new int[] {0, 32, 59, 119, 255}) {
            FEW.refused("type(" + letter + ") when full", long100, Check.FULL, x -> x.type(letter));
        }
        for (int letter : new int[] {-1, 256, Integer.MIN_VALUE, FAR}) {
            FEW.refused("type(" + letter + ") when full", long100, Check.BAD, x -> x.type(letter));
        }
        SideVersions y = new SideVersions();
        Check.type(y, " ".repeat(94) + "whole;");
        y.type(59);
        Check.due("the text is as it was", y.tells(), 1);
    }

    private static void badDeeds() {
        Check.at("promises 5, 7, 8 and 9: BAD");
        for (int wrong : new int[] {-1, 3, 4, FAR}) {
            fewer("reads at site " + wrong, Check.BAD, x -> x.reads(1, wrong, 0));
            fewer("reads of key " + wrong, Check.BAD, x -> x.reads(1, 0, wrong));
            fewer("sends from " + wrong, Check.BAD, x -> x.sends(wrong, 0, 0));
            fewer("sends to " + wrong, Check.BAD, x -> x.sends(0, wrong, 0));
            fewer("sends of key " + wrong, Check.BAD, x -> x.sends(0, 1, wrong));
            fewer("merges at " + wrong, Check.BAD, x -> x.merges(wrong, 1));
            fewer("merges of key " + wrong, Check.BAD, x -> x.merges(1, wrong));
        }
        for (int wrong : new int[] {-1, 4, FAR}) {
            fewer("reads by client " + wrong, Check.BAD, x -> x.reads(wrong, 0, 0));
            fewer("blinds of client " + wrong, Check.BAD, x -> x.blinds(wrong));
        }
        for (int site = 0; site < 3; site++) {
            int same = site;
            fewer("sends to the same site " + site, Check.BAD, x -> x.sends(same, same, 0));
        }
        fewer("sends to the same site that does not exist", Check.BAD, x -> x.sends(3, 3, 0));
    }

    private static void badWrites() {
        Check.at("promise 6: BAD, whatever else applies");
        for (int client = 0; client < 4; client++) {
            int by = client;
            fewer("writes at site -1", Check.BAD, x -> x.writes(by, -1, 0, 0, 1L));
            fewer("writes at site 3", Check.BAD, x -> x.writes(by, 3, 0, 0, 1L));
            fewer("writes of key -1", Check.BAD, x -> x.writes(by, 0, -1, 0, 1L));
            fewer("writes of key 3", Check.BAD, x -> x.writes(by, 0, 3, 0, 1L));
            fewer("writes of kind -1", Check.BAD, x -> x.writes(by, 0, 0, -1, 1L));
            fewer("writes of kind 2", Check.BAD, x -> x.writes(by, 0, 0, 2, 1L));
            fewer("writes of a negative value of kind 1", Check.BAD, x -> x.writes(by, 1, 1, 1, -1L));
            fewer("writes of a negative value of kind 1 of a whole key", Check.BAD, x -> x.writes(by, 1, 0, 1, -1L));
            fewer("writes of the least value of kind 1", Check.BAD, x -> x.writes(by, 1, 1, 1, Long.MIN_VALUE));
            filled("writes of a negative value of kind 1 where 40 are", Check.BAD, x -> x.writes(by, 2, 1, 1, -1L));
            filled("the same of a whole key", Check.BAD, x -> x.writes(by, 1, 0, 1, -1L));
            filled("writes of kind 2 where 40 are", Check.BAD, x -> x.writes(by, 1, 0, 2, 1L));
            filled("writes of kind -1 where 40 are", Check.BAD, x -> x.writes(by, 1, 0, -1, 1L));
        }
        fewer("writes by client -1", Check.BAD, x -> x.writes(-1, 0, 0, 0, 1L));
        fewer("writes by client 4", Check.BAD, x -> x.writes(4, 0, 0, 0, 1L));
        fewer("writes by client 4 of another kind", Check.BAD, x -> x.writes(4, 0, 0, 1, 1L));
        filled("writes by client 4 where 40 are", Check.BAD, x -> x.writes(4, 1, 0, 0, 1L));
        filled("writes by client -1 where 40 are", Check.BAD, x -> x.writes(-1, 1, 0, 0, 1L));
    }

    private static void unlikeWrites() {
        Check.at("promise 6: UNLIKE if the key has not this kind");
        for (int client = 0; client < 4; client++) {
            int by = client;
            for (int site = 0; site < 3; site++) {
                int at = site;
                fewer("writes of kind 1 of a whole key", Check.UNLIKE, x -> x.writes(by, at, 0, 1, 1L));
                fewer("writes of kind 0 of a bits key", Check.UNLIKE, x -> x.writes(by, at, 1, 0, 1L));
            }
            fewer("writes of a negative value of kind 0 of a bits key", Check.UNLIKE, x -> x.writes(by, 0, 1, 0, -1L));
        }
    }

    private static void fullWrites() {
        Check.at("promise 6: FULL if n would be 41, before UNLIKE");
        for (int client = 0; client < 4; client++) {
            int by = client;
            filled("writes of a whole key where 40 are", Check.FULL, x -> x.writes(by, 1, 0, 0, 1L));
            filled("writes of a bits key where 40 are", Check.FULL, x -> x.writes(by, 2, 1, 1, 1L));
            filled("writes of kind 1 of a whole key where 40 are", Check.FULL, x -> x.writes(by, 1, 0, 1, 1L));
            filled("writes of kind 0 of a bits key where 40 are", Check.FULL, x -> x.writes(by, 2, 1, 0, -1L));
            filled("writes of kind 1 of a whole key elsewhere", Check.UNLIKE, x -> x.writes(by, 0, 0, 1, 1L));
        }
    }

    private static void badRules() {
        Check.at("promise 10: BAD");
        for (int wrong : new int[] {-1, 5, FAR}) {
            for (int key = 0; key < 3; key++) {
                int of = key;
                fewer("rules(" + key + ", " + wrong + ")", Check.BAD, x -> x.rules(of, wrong));
            }
        }
        fewer("rules(-1, 0)", Check.BAD, x -> x.rules(-1, 0));
        fewer("rules(3, 0)", Check.BAD, x -> x.rules(3, 0));
        fewer("rules(3, 5)", Check.BAD, x -> x.rules(3, 5));
    }

    private static void merging() {
        Check.at("promise 9: STATE");
        for (int site = 0; site < 3; site++) {
            int at = site;
            fewer("merges of a key without a rule at " + site, Check.STATE, x -> x.merges(at, 0));
        }
        fewer("merges of none", Check.STATE, x -> x.merges(0, 1));
        fewer("merges of one", Check.STATE, x -> x.merges(2, 1));
        fewer("merges of one that was merged", Check.STATE, x -> x.merges(0, 2));
        fewer("merges of key 3, which has neither", Check.BAD, x -> x.merges(0, 3));
    }

    private static void mergingWithoutRoom() {
        Check.at("promise 9: BAD, STATE, FULL, OVER in this order");
        Twins.Run withoutRule = RefusalsTest::full;
        Twins.Run withRule = RefusalsTest::fullWithRule;
        Twins.Run withOne = x -> {
            fullWithRule(x);
            x.sends(1, 0, 0);
            x.reads(3, 0, 0);
            x.writes(3, 0, 0, 0, 1L);
            x.sends(0, 1, 0);
            Check.due("one sibling is left", x.sibling(1, 0, 1, 0), Check.NONE);
        };
        MANY.refused("neither a rule nor room", withoutRule, Check.STATE, x -> x.merges(1, 0));
        MANY.refused("one sibling and no room", withOne, Check.STATE, x -> x.merges(1, 0));
        MANY.refused("no room, and the sum is no long", withRule, Check.FULL, x -> x.merges(1, 0));
        MANY.refused("no room", withRule, Check.FULL, x -> x.merges(2, 1));
        MANY.refused("no such site, and no rule", withoutRule, Check.BAD, x -> x.merges(3, 0));
        MANY.refused("no such key", withRule, Check.BAD, x -> x.merges(1, 2));
    }

    private static void mergingOver() {
        Check.at("promise 9: OVER");
        Twins.Run sum = x -> {
            rich(x);
            x.rules(0, 2);
            x.writes(0, 0, 0, 0, GREATEST);
        };
        FEW.refused("a sum", sum, Check.OVER, x -> x.merges(0, 0));
        Twins.Run divisor = x -> {
            rich(x);
            x.rules(2, 3);
            x.writes(0, 1, 2, 0, Long.MIN_VALUE);
            x.writes(0, 1, 2, 0, 0L);
        };
        FEW.refused("a divisor", divisor, Check.OVER, x -> x.merges(1, 2));
        Check.at("promise 9: STATE before OVER");
        FEW.refused("the key has lost its rule", losing(sum), Check.STATE, x -> x.merges(0, 0));
    }

    /** A run after which key 0 has lost its rule again. */
    private static Twins.Run losing(Twins.Run run) {
        return x -> {
            run.on(x);
            x.rules(2, 1);
            x.rules(1, 1);
            Check.due("rule(0, 0) is not key 0", x.rule(0, 0) == 0 ? 1 : 0, 0);
            Check.due("rule(1, 0) is not key 0", x.rule(1, 0) == 0 ? 1 : 0, 0);
        };
    }

    private static SideVersions told() {
        SideVersions x = new SideVersions();
        rich(x);
        return x;
    }

    private static void noneOnlyIfNoErrorApplies() {
        Check.at("NONE is returned only if no error code applies");
        Check.due("sibling(0, 0, 5, 4)", told().sibling(0, 0, 5, 4), Check.BAD);
        Check.due("sibling(0, 0, 5, 3)", told().sibling(0, 0, 5, 3), Check.NONE);
        Check.due("sibling(0, 0, -1, 3)", told().sibling(0, 0, -1, 3), Check.BAD);
        Check.due("sibling(3, 0, 5, 3)", told().sibling(3, 0, 5, 3), Check.BAD);
        Check.due("sibling(0, 3, 5, 3)", told().sibling(0, 3, 5, 3), Check.BAD);
        Check.due("context(0, 3) of a blind client", told().context(0, 3), Check.BAD);
        Check.due("context(0, 7) of a blind client", told().context(0, 7), Check.BAD);
        Check.due("context(0, -2) of a blind client", told().context(0, -2), Check.BAD);
        Check.due("context(0, 2) of a blind client", told().context(0, 2), Check.NONE);
        Check.due("context(0, 6) of a blind client", told().context(0, 6), Check.NONE);
        Check.due("context(4, 0)", told().context(4, 0), Check.BAD);
        Check.due("rule(2, 2)", told().rule(2, 2), Check.BAD);
        Check.due("rule(2, -1)", told().rule(2, -1), Check.BAD);
        Check.due("rule(2, 1)", told().rule(2, 1), Check.NONE);
        Check.due("rule(-1, 1)", told().rule(-1, 1), Check.BAD);
        SideVersions x = Check.store("whole;");
        Check.due("spread(0, 1) if none is needed", x.spread(0, 1), Check.NONE);
        Check.due("spread(0, 2) if none is needed", x.spread(0, 2), Check.BAD);
        Check.due("spread(1, 1)", x.spread(1, 1), Check.BAD);
        Check.due("rules(1, 0) of a key that does not exist", x.rules(1, 0), Check.BAD);
        Check.due("rules(0, 5)", x.rules(0, 5), Check.BAD);
        Check.due("rules(0, 4)", x.rules(0, 4), Check.NONE);
    }

    private static void badQuestions() {
        Check.at("questions that are BAD change nothing");
        fewer("row", Check.BAD, x -> x.row(3, 0, 0));
        fewer("sibling", Check.BAD, x -> x.sibling(0, 0, -1, 0));
        fewer("context", Check.BAD, x -> x.context(2, 3));
        fewer("write", Check.BAD, x -> x.write(0, 0, 2, 0));
        fewer("ahead", Check.BAD, x -> x.ahead(0, 0, 1, 0, 1, 2));
        fewer("alike", Check.BAD, x -> x.alike(3, 3, 0));
        fewer("behind", Check.BAD, x -> x.behind(0, 3));
        fewer("spread", Check.BAD, x -> x.spread(0, 2));
        fewer("rule", Check.BAD, x -> x.rule(-1, 0));
        fewer("tally", Check.BAD, x -> x.tally(0, 7));
        fewer("count", Check.BAD, x -> x.count(6));
    }

    private static void askingChangesNothing() {
        Check.at("promises 11 to 21: questions change nothing");
        FEW.askingChangesNothing("asked", RefusalsTest::rich);
        MANY.askingChangesNothing("asked when full", RefusalsTest::fullWithRule);
    }
}
