import java.math.BigInteger;

/** Promises 9 and 10: every sentence on merging and on rules that names an edge. */
public final class MergeEdgesTest {
    private static final long LEAST = Long.MIN_VALUE;
    private static final long GREATEST = Long.MAX_VALUE;
    private static final long[] WHOLES = {LEAST, LEAST + 1, LEAST / 2, -12, -6, -1, 0, 1, 8, 12, 1L << 62, GREATEST - 1,
        GREATEST};
    private static final long[] SETS = {0, 1, 2, 3, 6, 8, 1L << 32, 1L << 62, GREATEST - 1, GREATEST};

    public static void main(String[] args) {
        withoutARule();
        fewerThanTwoSiblings();
        twoSiblingsAndMore();
        theRuleIsThatOfTheKey();
        theValueOfEachRule();
        sumsAtTheEdges();
        divisorsAtTheEdges();
        theOrderOfTheStamps();
        theNewWrite();
        seenAndMergedAndRemoved();
        theRowBeforeIsToldAndKnown();
        theOnlySibling();
        overAndThenNot();
        atMostTwoRules();
        aThirdKeyGetsARule();
        keepingThePlace();
        aRuleLostAndGottenAgain();
        rulesWithErrors();
        Check.finish();
    }

    private static void withoutARule() {
        Check.at("STATE if the key has no rule");
        SideVersions x = Check.store("whole;whole;");
        x.writes(0, 0, 0, 0, 1L);
        x.writes(0, 0, 0, 0, 2L);
        Check.due("merges(0, 0) without rules", x.merges(0, 0), Check.STATE);
        x.rules(1, 0);
        Check.due("merges(0, 0) when another key has one", x.merges(0, 0), Check.STATE);
        x.rules(0, 0);
        Check.due("merges(0, 0) with a rule", x.merges(0, 0), 3);
    }

    private static void fewerThanTwoSiblings() {
        Check.at("STATE if the site has fewer than two siblings of it");
        SideVersions x = Check.store("bound 1;whole;whole;");
        x.rules(0, 0);
        x.rules(1, 0);
        Check.due("merges(0, 0) of none", x.merges(0, 0), Check.STATE);
        x.writes(0, 0, 0, 0, 1L);
        Check.due("merges(0, 0) of one", x.merges(0, 0), Check.STATE);
        x.writes(0, 0, 0, 0, 2L);
        Check.due("merges(0, 0) of one, as the bound is 1", x.merges(0, 0), Check.STATE);
        SideVersions y = Check.store("bound 2;whole;whole;");
        y.rules(0, 0);
        y.rules(1, 0);
        y.writes(0, 0, 0, 0, 1L);
        y.writes(0, 1, 0, 0, 1L);
        y.writes(0, 0, 1, 0, 1L);
        Check.due("merges(0, 0) of one, with others elsewhere", y.merges(0, 0), Check.STATE);
        Check.due("merges(0, 1) of one, with others elsewhere", y.merges(0, 1), Check.STATE);
        y.writes(0, 0, 0, 0, 2L);
        Check.due("merges(0, 0) of two", y.merges(0, 0), 3);
        Check.due("merges(0, 0) of the merged one", y.merges(0, 0), Check.STATE);
        y.reads(0, 0, 0);
        y.writes(0, 0, 0, 0, 2L);
        Check.due("merges(0, 0) of the one that replaced it", y.merges(0, 0), Check.STATE);
    }

    private static void twoSiblingsAndMore() {
        Check.at("all of them (at least two) are merged");
        for (int siblings = 2; siblings <= 6; siblings++) {
            SideVersions x = Check.store("bound 6;whole;");
            x.rules(0, 2);
            for (int n = 1; n <= siblings; n++) {
                x.writes(0, 1, 0, 0, 1L << n);
            }
            Check.due("merges(1, 0) of " + siblings, x.merges(1, 0), siblings + 1);
            Check.due("their sum", x.sibling(1, 0, 0, 3), (2L << siblings) - 2);
            Check.due("tally(0, 3)", x.tally(0, 3), siblings);
            Check.due("tally(0, 1)", x.tally(0, 1), siblings + 1);
        }
    }

    private static void theRuleIsThatOfTheKey() {
        Check.at("its value depends on the rule of the key");
        SideVersions x = Check.store("whole;whole;");
        for (int key = 0; key < 2; key++) {
            x.writes(0, 0, key, 0, 4L);
            x.writes(0, 0, key, 0, 6L);
        }
        x.rules(1, 1);
        x.rules(0, 2);
        x.merges(0, 0);
        x.merges(0, 1);
        Check.due("of key 0", x.sibling(0, 0, 0, 3), 10);
        Check.due("of key 1", x.sibling(0, 1, 0, 3), 4);
    }

    private static boolean isLong(BigInteger value) {
        return value.bitLength() <= 63;
    }

    /** What merging by a rule is due to give, or null for OVER; the values are in the order of their stamps. */
    private static BigInteger due(int kind, int rule, long... values) {
        BigInteger value = BigInteger.valueOf(values[0]);
        value = rule == 3 && kind == 0 ? value.abs() : value;
        for (int i = 1; i < values.length; i++) {
            BigInteger next = BigInteger.valueOf(values[i]);
            switch (rule) {
                case 0: value = value.max(next); break;
                case 1: value = value.min(next); break;
                case 2: value = kind == 0 ? value.add(next) : value.or(next); break;
                case 3: value = kind == 0 ? value.gcd(next) : value.and(next); break;
                default: value = next;
            }
            if (rule == 2 && !isLong(value)) {
                return null;
            }
        }
        return isLong(value) ? value : null;
    }

    private static void merge(int kind, int rule, long... values) {
        SideVersions x = Check.store("bound 6;" + (kind == 0 ? "whole;" : "bits;"));
        StringBuilder name = new StringBuilder("kind " + kind + ", rule " + rule + ", values");
        for (long value : values) {
            x.writes(0, 0, 0, kind, value);
            name.append(' ').append(value);
        }
        x.rules(0, rule);
        BigInteger want = due(kind, rule, values);
        Check.due(name.toString(), x.merges(0, 0), want == null ? Check.OVER : values.length + 1);
        Check.due(name + ": the first sibling", x.sibling(0, 0, 0, 3), want == null ? values[0] : want.longValueExact());
        Check.due(name + ": count(4)", x.count(4), want == null ? values.length : values.length + 1);
    }

    private static void theValueOfEachRule() {
        Check.at("its value depends on the rule, of all pairs and triples of values at the edges");
        for (int kind = 0; kind < 2; kind++) {
            long[] values = kind == 0 ? WHOLES : SETS;
            for (int rule = 0; rule <= 4; rule++) {
                for (long a : values) {
                    for (long b : values) {
                        merge(kind, rule, a, b);
                        for (long c : values) {
                            merge(kind, rule, a, b, c);
                        }
                    }
                }
            }
        }
    }

    /** The merged value, which no caller expects to be a code, or the code. */
    private static long merged(int rule, long... values) {
        SideVersions x = Check.store("bound 6;whole;");
        for (long value : values) {
            x.writes(0, 0, 0, 0, value);
        }
        x.rules(0, rule);
        int answer = x.merges(0, 0);
        return answer < 0 ? answer : x.sibling(0, 0, 0, 3);
    }

    private static void sumsAtTheEdges() {
        Check.at("rule 2: OVER if a partial sum, in the order of the stamps, is not a long");
        Check.due("the greatest long", merged(2, GREATEST - 5, 1, 1, 1, 1, 1), GREATEST);
        Check.due("one above it", merged(2, GREATEST - 4, 1, 1, 1, 1, 1), Check.OVER);
        Check.due("the lowest long", merged(2, LEAST + 10, -2, -2, -2, -2, -2), LEAST);
        Check.due("one below it", merged(2, LEAST + 9, -2, -2, -2, -2, -2), Check.OVER);
        Check.due("above it and back", merged(2, GREATEST, 1, -7), Check.OVER);
        Check.due("below it and back", merged(2, LEAST, -1, 8), Check.OVER);
        Check.due("to it and back", merged(2, GREATEST - 1, 1, -7), GREATEST - 7);
        Check.due("down to it and back", merged(2, LEAST + 1, -1, 7), LEAST + 7);
        Check.due("over in the middle", merged(2, 1, GREATEST, LEAST), Check.OVER);
        Check.due("the same values in another order", merged(2, 1, LEAST, GREATEST), 0);
        Check.due("over by the last one", merged(2, 0, 0, GREATEST, 1), Check.OVER);
        Check.due("by far", merged(2, LEAST, LEAST, LEAST, LEAST), Check.OVER);
        // the sum of these two has every bit turned
        Check.due("a third of all, twice", merged(2, 0x5555555555555555L, 0x5555555555555555L), Check.OVER);
        Check.due("all at an edge, in turn", merged(2, GREATEST, LEAST, GREATEST), GREATEST - 1);
    }

    private static void divisorsAtTheEdges() {
        Check.at("rule 3: the greatest common divisor, not negative; 0 if all are 0; OVER if 2 to the power of 63");
        Check.due("all 0", merged(3, 0, 0, 0, 0, 0, 0), 0);
        Check.due("all 0 but one", merged(3, 0, 0, -7, 0), 7);
        Check.due("2 to the power of 63", merged(3, LEAST, LEAST), Check.OVER);
        Check.due("and zeros", merged(3, 0, LEAST, 0), Check.OVER);
        Check.due("2 to the power of 62", merged(3, LEAST, LEAST / 2, LEAST), 1L << 62);
        Check.due("the last one mends it", merged(3, LEAST, LEAST, 0, 1), 1);
        Check.due("negative ones", merged(3, -8, -12), 4);
        Check.due("one and the greatest", merged(3, GREATEST, GREATEST), GREATEST);
        Check.due("minus the greatest", merged(3, -GREATEST, 0), GREATEST);
        Check.due("minus one and the least", merged(3, -1, LEAST), 1);
        Check.due("the least and minus one", merged(3, LEAST, -1), 1);
        Check.due("a long way", merged(3, 7540113804746346429L, 4660046610375530309L), 1);
        Check.due("a long way, negative", merged(3, -7540113804746346429L, 4660046610375530309L), 1);
        Check.at("the other rules do not know OVER");
        for (int rule : new int[] {0, 1, 4}) {
            Check.due("rule " + rule + " of the least", merged(rule, LEAST, LEAST), LEAST);
            Check.due("rule " + rule + " of the greatest", merged(rule, GREATEST, GREATEST), GREATEST);
        }
    }

    private static void theOrderOfTheStamps() {
        Check.at("the value with the greatest stamp, and sums in the order of the stamps");
        int[][] orders = {{0, 1, 2}, {0, 2, 1}, {1, 0, 2}, {1, 2, 0}, {2, 0, 1}, {2, 1, 0}};
        long[] values = {GREATEST, -1, 1};
        for (int[] order : orders) {
            for (int at = 0; at < 3; at++) {
                for (int rule : new int[] {2, 4}) {
                    SideVersions x = Check.store("whole;");
                    for (int i = 0; i < 3; i++) {
                        x.writes(0, order[i], 0, 0, values[i]);
                    }
                    x.sends((at + 1) % 3, at, 0);
                    x.sends((at + 2) % 3, at, 0);
                    x.rules(0, rule);
                    Check.due("merges(" + at + ", 0)", x.merges(at, 0), 2);
                    Check.due("rule " + rule + " at " + at, x.sibling(at, 0, 0, 3), rule == 2 ? GREATEST : 1);
                }
                SideVersions y = Check.store("whole;");
                y.writes(0, order[0], 0, 0, GREATEST);
                y.writes(0, order[1], 0, 0, 1L);
                y.writes(0, order[2], 0, 0, -1L);
                y.sends((at + 1) % 3, at, 0);
                y.sends((at + 2) % 3, at, 0);
                y.rules(0, 2);
                Check.due("merges(" + at + ", 0), over on the way", y.merges(at, 0), Check.OVER);
            }
        }
    }

    /** Two writes of each of three sites, all of them known to site 2. */
    private static SideVersions gathered() {
        SideVersions x = Check.store("bound 6;whole;whole;");
        x.writes(0, 0, 1, 0, 1L);
        for (int site = 0; site < 3; site++) {
            x.writes(0, site, 0, 0, 2L * site);
            x.writes(0, site, 0, 0, 2L * site + 1);
        }
        x.sends(0, 2, 0);
        x.sends(1, 2, 0);
        x.writes(0, 0, 0, 0, 77L);
        x.rules(0, 0);
        Check.due("merges(2, 0)", x.merges(2, 0), 3);
        return x;
    }

    private static void theNewWrite() {
        Check.at("a new write becomes the only sibling; its dot is (s, n), and the number for s becomes n");
        SideVersions x = gathered();
        long[] want = {2, 3, 9, 5};
        for (int what = 0; what < 4; what++) {
            Check.due("sibling(2, 0, 0, " + what + ")", x.sibling(2, 0, 0, what), want[what]);
            Check.due("sibling(2, 0, 1, " + what + ")", x.sibling(2, 0, 1, what), Check.NONE);
        }
        long[] row = {2, 2, 3};
        for (int s = 0; s < 3; s++) {
            Check.due("row(2, 0, " + s + ")", x.row(2, 0, s), row[s]);
        }
        long[] write = {5, 9, 0, 0, 0, 0, 4, 0};
        for (int what = 0; what < 8; what++) {
            Check.due("write(0, 2, 3, " + what + ")", x.write(0, 2, 3, what), write[what]);
        }
        Check.due("count(4)", x.count(4), 9);
        Check.due("tally(0, 1)", x.tally(0, 1), 8);
        Check.due("tally(1, 1)", x.tally(1, 1), 1);
    }

    private static void seenAndMergedAndRemoved() {
        Check.at("all of them have been seen, are merged, and are removed");
        SideVersions x = gathered();
        for (int site = 0; site < 3; site++) {
            for (int n = 1; n <= 2; n++) {
                Check.due("seen", x.write(0, site, n, 2), 1);
                Check.due("not dropped", x.write(0, site, n, 3), 0);
                Check.due("not replaced", x.write(0, site, n, 4), 0);
                Check.due("merged", x.write(0, site, n, 5), 1);
                Check.due("removed there alone", x.write(0, site, n, 6), site == 2 ? 0 : 1 << site);
                Check.due("not lost, as it has been seen", x.write(0, site, n, 7), 0);
            }
        }
        Check.due("what was not there has not been seen", x.write(0, 0, 3, 2), 0);
        Check.due("nor merged", x.write(0, 0, 3, 5), 0);
        Check.due("tally(0, 3)", x.tally(0, 3), 6);
        Check.due("tally(0, 6) knows no false sibling", x.tally(0, 6), 0);
        x.sends(2, 0, 0);
        Check.due("what is merged goes elsewhere by sending", x.write(0, 0, 2, 6), 0);
        Check.due("tally(0, 3) counts none again", x.tally(0, 3), 6);
    }

    private static void theRowBeforeIsToldAndKnown() {
        Check.at("its told and its known are the row as it was before, whatever the limit");
        for (int limit = 1; limit <= 4; limit++) {
            SideVersions x = Check.store("limit " + limit + ";whole;");
            x.writes(0, 0, 0, 0, 1L);
            x.writes(0, 1, 0, 0, 1L);
            x.writes(0, 1, 0, 0, 1L);
            x.writes(0, 2, 0, 0, 1L);
            x.sends(0, 2, 0);
            x.sends(1, 2, 0);
            x.writes(0, 1, 0, 0, 1L);
            x.rules(0, 0);
            Check.due("merges(2, 0)", x.merges(2, 0), 2);
            for (int way = 0; way < 2; way++) {
                Check.due("ahead of (0, 1)", x.ahead(0, 0, 1, 2, 2, way), 1);
                Check.due("ahead of (1, 2)", x.ahead(0, 1, 2, 2, 2, way), 1);
                Check.due("ahead of (1, 3)", x.ahead(0, 1, 3, 2, 2, way), 0);
                Check.due("ahead of (2, 1)", x.ahead(0, 2, 1, 2, 2, way), 1);
                Check.due("ahead of itself", x.ahead(0, 2, 2, 2, 2, way), 0);
            }
        }
    }

    private static void theOnlySibling() {
        Check.at("a merged write is a sibling as any other");
        SideVersions x = gathered();
        Check.due("writes(1, 2, 0, 0, 50)", x.writes(1, 2, 0, 0, 50L), 4);
        x.rules(0, 2);
        Check.due("it is merged again", x.merges(2, 0), 5);
        Check.due("its value", x.sibling(2, 0, 0, 3), 55);
        Check.due("write(0, 2, 3, 5)", x.write(0, 2, 3, 5), 1);
        x.reads(3, 2, 0);
        Check.due("it is replaced", x.writes(3, 2, 0, 0, 1L), 6);
        Check.due("write(0, 2, 5, 4)", x.write(0, 2, 5, 4), 1);
        Check.due("write(0, 2, 5, 2)", x.write(0, 2, 5, 2), 1);
        Check.at("a merge leaves the contexts as they are");
        SideVersions y = Check.store("whole;");
        y.writes(0, 0, 0, 0, 1L);
        y.writes(0, 0, 0, 0, 2L);
        y.reads(1, 0, 0);
        y.rules(0, 0);
        y.merges(0, 0);
        Check.due("context(1, 0)", y.context(1, 0), 2);
        Check.due("writes(1, 0, 0, 0, 3)", y.writes(1, 0, 0, 0, 3L), 4);
        Check.due("it does not know the merged one", y.reads(1, 0, 0), 2);
    }

    private static void overAndThenNot() {
        Check.at("after OVER another rule, or another sibling, may do");
        SideVersions x = Check.store("whole;");
        x.writes(0, 0, 0, 0, LEAST);
        x.writes(0, 0, 0, 0, LEAST);
        x.rules(0, 2);
        Check.due("the sum", x.merges(0, 0), Check.OVER);
        x.rules(0, 3);
        Check.due("the divisor", x.merges(0, 0), Check.OVER);
        x.writes(0, 0, 0, 0, 6L);
        Check.due("the divisor of three", x.merges(0, 0), 4);
        Check.due("its value", x.sibling(0, 0, 0, 3), 2);
        Check.due("its stamp", x.sibling(0, 0, 0, 2), 4);
    }

    private static void rulesAre(SideVersions x, long... want) {
        for (int i = 0; i < 2; i++) {
            Check.due("rule(" + i + ", 0)", x.rule(i, 0), 2 * i < want.length ? want[2 * i] : Check.NONE);
            Check.due("rule(" + i + ", 1)", x.rule(i, 1), 2 * i < want.length ? want[2 * i + 1] : Check.NONE);
        }
        Check.due("rule(2, 0)", x.rule(2, 0), Check.NONE);
        Check.due("rule(2, 1)", x.rule(2, 1), Check.NONE);
    }

    private static void atMostTwoRules() {
        Check.at("at most two keys have a merge rule");
        SideVersions x = Check.store("whole;whole;whole;whole;");
        rulesAre(x);
        Check.due("rules(3, 4)", x.rules(3, 4), Check.NONE);
        rulesAre(x, 3, 4);
        Check.due("rules(0, 0)", x.rules(0, 0), Check.NONE);
        rulesAre(x, 3, 4, 0, 0);
        Check.due("rules(2, 1)", x.rules(2, 1), 3);
        rulesAre(x, 0, 0, 2, 1);
        Check.due("rules(1, 3)", x.rules(1, 3), 0);
        rulesAre(x, 2, 1, 1, 3);
    }

    private static void aThirdKeyGetsARule() {
        Check.at("the key that has had a rule for the longest time loses it");
        for (int first = 0; first < 4; first++) {
            for (int second = 0; second < 4; second++) {
                for (int third = 0; third < 4; third++) {
                    if (first != second && first != third && second != third) {
                        threeRules(first, second, third);
                    }
                }
            }
        }
    }

    private static void threeRules(int first, int second, int third) {
        SideVersions x = Check.store("whole;whole;whole;whole;");
        for (int key : new int[] {first, second, third}) {
            x.writes(0, 0, key, 0, 1L);
            x.writes(0, 0, key, 0, 2L);
        }
        Check.due("rules of the first", x.rules(first, 0), Check.NONE);
        Check.due("rules of the second", x.rules(second, 1), Check.NONE);
        Check.due("rules of the third", x.rules(third, 2), first);
        rulesAre(x, second, 1, third, 2);
        Check.due("merges of the first", x.merges(0, first), Check.STATE);
        Check.due("merges of the second", x.merges(0, second), 3);
        Check.due("merges of the third", x.merges(0, third), 3);
    }

    private static void keepingThePlace() {
        Check.at("a key that has a rule and gets another one keeps its place in this order");
        SideVersions x = Check.store("whole;whole;whole;whole;");
        x.rules(2, 0);
        Check.due("alone", x.rules(2, 1), Check.NONE);
        rulesAre(x, 2, 1);
        x.rules(1, 4);
        Check.due("the first of two", x.rules(2, 3), Check.NONE);
        rulesAre(x, 2, 3, 1, 4);
        Check.due("the second of two", x.rules(1, 2), Check.NONE);
        rulesAre(x, 2, 3, 1, 2);
        Check.due("the same rule", x.rules(2, 3), Check.NONE);
        rulesAre(x, 2, 3, 1, 2);
        Check.due("the first loses it all the same", x.rules(3, 0), 2);
        rulesAre(x, 1, 2, 3, 0);
    }

    private static void aRuleLostAndGottenAgain() {
        Check.at("a key that lost its rule and gets one again is the youngest");
        SideVersions x = Check.store("whole;bits;whole;");
        x.rules(0, 0);
        x.rules(1, 1);
        Check.due("rules(2, 2)", x.rules(2, 2), 0);
        Check.due("rules(0, 3)", x.rules(0, 3), 1);
        rulesAre(x, 2, 2, 0, 3);
        Check.due("rules(1, 4)", x.rules(1, 4), 2);
        rulesAre(x, 0, 3, 1, 4);
    }

    private static void rulesWithErrors() {
        Check.at("BAD if there is no such key or rule is out of range; no rule is lost by it");
        SideVersions x = Check.store("whole;bits;whole;");
        x.rules(1, 3);
        x.rules(0, 2);
        Check.due("rules(2, 5)", x.rules(2, 5), Check.BAD);
        Check.due("rules(2, -1)", x.rules(2, -1), Check.BAD);
        Check.due("rules(3, 0)", x.rules(3, 0), Check.BAD);
        Check.due("rules(-1, 0)", x.rules(-1, 0), Check.BAD);
        Check.due("rules(1, 5)", x.rules(1, 5), Check.BAD);
        rulesAre(x, 1, 3, 0, 2);
    }
}
