/** Every sentence of promise 8. */
public final class Sentences08ShadowedTest {
    public static void main(String[] args) {
        Check check = new Check();
        falseBesideTheList(check);
        falseForAnEmptyList(check);
        trueOnlyIfEveryTupleIsMatched(check);
        onlyLowerIndicesCount(check);
        ruleZeroNeverIs(check);
        shadowedIsRedundantToo(check);
        removalLeavesClassify(check);
        asksOnly(check);
        check.end();
    }

    private static StatefulFirewall sameRules(int count) {
        StatefulFirewall firewall = Sample.acceptAll();
        for (int i = 0; i < count; i++) {
            firewall.addRule(0, 0, 240, Sample.ACCEPT_ANY);
        }
        return firewall;
    }

    private static void falseBesideTheList(Check check) {
        check.sentence("shadowed(index) answers false if index is not in 0..count-1");
        for (int count = 1; count <= 16; count++) {
            int held = count;
            for (int index : Sample.outside(count - 1)) {
                check.changesNothing("shadowed(" + index + ") of " + count, () -> sameRules(held),
                    firewall -> firewall.shadowed(index) ? 1 : 0, 0);
            }
            check.due("shadowed of the last of " + count, sameRules(count).shadowed(count - 1), count > 1);
        }
        // The place behind the list still holds what was removed, which an earlier rule would shadow.
        StatefulFirewall firewall = sameRules(16);
        firewall.removeRule(15);
        check.due("shadowed(15) of 15", firewall.shadowed(15), false);
        check.due("shadowed(14) of 15", firewall.shadowed(14), true);
    }

    private static void falseForAnEmptyList(Check check) {
        check.sentence("shadowed(index) answers false if index is not in 0..count-1");
        StatefulFirewall firewall = sameRules(0);
        for (int index = -17; index <= 17; index++) {
            check.due("shadowed(" + index + ") of none", firewall.shadowed(index), false);
        }
    }

    private static StatefulFirewall two(int[] first, int[] second) {
        StatefulFirewall firewall = Sample.dropAll();
        firewall.addRule(first[0], first[1], first[2], first[3]);
        firewall.addRule(second[0], second[1], second[2], second[3]);
        return firewall;
    }

    private static void trueOnlyIfEveryTupleIsMatched(Check check) {
        check.sentence("Otherwise it answers true iff every tuple of the rule domain that rule index matches "
            + "is also matched by some rule of lower index.");
        // Each part of the second rule is the first's own, one narrower, one wider, or one beside it.
        int[] sources = {Sample.prefix(4, 2), Sample.prefix(4, 3), Sample.prefix(0, 1), Sample.prefix(8, 2)};
        int[] targets = {Sample.prefix(8, 2), Sample.prefix(10, 3), Sample.prefix(8, 1), Sample.prefix(12, 2)};
        int[] ranges = {Sample.range(5, 8), Sample.range(6, 7), Sample.range(5, 9), Sample.range(9, 9)};
        int[] wider = {Sample.range(5, 8), Sample.range(5, 5), Sample.range(4, 8), Sample.range(4, 4)};
        for (int number = 0; number < 64; number++) {
            int source = number & 3;
            int target = number >> 2 & 3;
            int range = number >> 4;
            boolean inside = source < 2 && target < 2 && range < 2;
            for (int proto = 0; proto <= 2; proto++) {
                int[] rule = {sources[source], targets[target], ranges[range], proto};
                int[] other = {sources[source], targets[target], wider[range], proto};
                int[] any = {sources[0], targets[0], ranges[0], Sample.ACCEPT_ANY};
                int[] udp = {sources[0], targets[0], ranges[0], Sample.ACCEPT_UDP};
                check.due("shadowed(1) by ANY", two(any, rule).shadowed(1), inside);
                check.due("shadowed(1) by ANY", two(any, other).shadowed(1), inside);
                check.due("shadowed(1) by UDP", two(udp, rule).shadowed(1), inside && proto == 1);
            }
        }
    }

    private static void onlyLowerIndicesCount(Check check) {
        check.sentence("also matched by some rule of lower index");
        for (int index = 0; index < 16; index++) {
            StatefulFirewall firewall = Sample.dropAll();
            for (int i = 0; i < 16; i++) {
                // The rule for all stands at the index; the rules before and after are narrow and apart.
                firewall.addRule(i == index ? 0 : Sample.prefix(i, 4), 0, 240, Sample.ACCEPT_ANY);
            }
            for (int i = 0; i < 16; i++) {
                check.due("shadowed(" + i + ") with all at " + index, firewall.shadowed(i), i > index);
            }
        }
    }

    private static void ruleZeroNeverIs(Check check) {
        check.sentence("Rule 0 is never shadowed.");
        for (int source = 0; source < 16; source += 5) {
            for (int dport = 0; dport < 16; dport += 5) {
                for (int action : new int[] {0, 1, 2, 4, 5, 6}) {
                    int[] rule = {Sample.prefix(source, 4), Sample.prefix(15 - source, 4), 17 * dport, action};
                    check.due("shadowed(0)", two(rule, rule).shadowed(0), false);
                    check.due("shadowed(1)", two(rule, rule).shadowed(1), true);
                    StatefulFirewall firewall = two(rule, rule);
                    firewall.removeRule(0);
                    check.due("shadowed(0) once it is the first", firewall.shadowed(0), false);
                }
            }
        }
    }

    private static void shadowedIsRedundantToo(Check check) {
        check.sentence("Whenever shadowed(i) answers true, two further facts hold. redundant(i) also answers true.");
        Numbers numbers = new Numbers(88);
        int seen = 0;
        for (int run = 0; run < 60; run++) {
            RuleList list = new RuleList(numbers);
            StatefulFirewall firewall = list.firewall();
            for (int index = 0; index < list.count(); index++) {
                check.due("shadowed(" + index + ")", firewall.shadowed(index), list.shadowed(index));
                if (firewall.shadowed(index)) {
                    seen++;
                    check.due("redundant(" + index + ") of a shadowed rule", firewall.redundant(index), true);
                }
            }
        }
        check.due("shadowed rules were seen", seen > 20, true);
        // Shadowed by rules of the other action, against the default and with it.
        for (int byDefault = 0; byDefault < 2; byDefault++) {
            StatefulFirewall firewall = new StatefulFirewall(4, 4, byDefault);
            firewall.addRule(Sample.prefix(0, 1), 0, 240, Sample.DROP_ANY);
            firewall.addRule(Sample.prefix(8, 1), 0, 240, Sample.ACCEPT_ANY);
            firewall.addRule(0, 0, 240, Sample.DROP_ANY);
            check.due("shadowed(2)", firewall.shadowed(2), true);
            check.due("redundant(2)", firewall.redundant(2), true);
        }
    }

    private static void removalLeavesClassify(Check check) {
        check.sentence("Whenever shadowed(i) answers true, two further facts hold. redundant(i) also answers true. "
            + "Calling removeRule(i) leaves the answer of classify unchanged for every valid header.");
        Numbers numbers = new Numbers(888);
        for (int run = 0; run < 30; run++) {
            RuleList list = new RuleList(numbers);
            StatefulFirewall firewall = list.firewall();
            for (int index = 0; index < list.count(); index++) {
                if (firewall.shadowed(index)) {
                    check.due("removal changes classify", list.removalChanges(index), false);
                }
            }
        }
    }

    private static void asksOnly(Check check) {
        check.sentence("The call changes nothing.");
        check.changesNothing("shadowed(2)", Places::fullOfFour, firewall -> firewall.shadowed(2) ? 1 : 0, 0);
        check.changesNothing("shadowed(0)", Places::fullOfSixteen, firewall -> firewall.shadowed(0) ? 1 : 0, 0);
        check.changesNothing("shadowed(16)", Places::fullOfSixteen, firewall -> firewall.shadowed(16) ? 1 : 0, 0);
        check.changesNothing("shadowed(0)", Places::newDropping, firewall -> firewall.shadowed(0) ? 1 : 0, 0);
        check.changesNothing("shadowed(1)", () -> sameRules(16), firewall -> firewall.shadowed(1) ? 1 : 0, 1);
    }
}
