/** Every sentence of promise 9. */
public final class Sentences09RedundantTest {
    public static void main(String[] args) {
        Check check = new Check();
        falseBesideTheList(check);
        falseForAnEmptyList(check);
        oneTupleIsEnough(check);
        sameDefaultIsKept(check);
        orderIsKept(check);
        removalLeavesClassify(check);
        asksOnly(check);
        check.end();
    }

    private static StatefulFirewall sameRules(int count) {
        StatefulFirewall firewall = Sample.acceptAll();
        for (int i = 0; i < count; i++) {
            firewall.addRule(0, 0, 240, Sample.ACCEPT_ANY);
        }
        return firewall;
    }

    private static void falseBesideTheList(Check check) {
        check.sentence("redundant(index) answers false if index is not in 0..count-1");
        for (int count = 1; count <= 16; count++) {
            int held = count;
            for (int index : Sample.outside(count - 1)) {
                check.changesNothing("redundant(" + index + ") of " + count, () -> sameRules(held),
                    firewall -> firewall.redundant(index) ? 1 : 0, 0);
            }
            check.due("redundant(0) of " + count, sameRules(count).redundant(0), true);
            check.due("redundant of the last of " + count, sameRules(count).redundant(count - 1), true);
        }
    }

    private static void falseForAnEmptyList(Check check) {
        check.sentence("redundant(index) answers false if index is not in 0..count-1");
        StatefulFirewall firewall = sameRules(1);
        check.due("redundant(0) of one", firewall.redundant(0), true);
        firewall.removeRule(0);
        for (int index = -17; index <= 17; index++) {
            check.due("redundant(" + index + ") of none", firewall.redundant(index), false);
            check.due("redundant(" + index + ") of none", sameRules(0).redundant(index), false);
        }
    }

    private static void oneTupleIsEnough(Check check) {
        check.sentence("Otherwise it answers true iff, for every tuple of the rule domain, the decision equals "
            + "the decision that the list without this rule would give.");
        for (int byDefault = 0; byDefault < 2; byDefault++) {
            // The rule and the default differ on all that the rule before it leaves of them: one tuple, or none.
            for (int last = 14; last <= 15; last++) {
                StatefulFirewall firewall = new StatefulFirewall(4, 4, byDefault);
                firewall.addRule(Sample.prefix(15, 4), Sample.prefix(15, 4), Sample.range(0, last), 1 + 4 * byDefault);
                firewall.addRule(Sample.prefix(15, 4), Sample.prefix(15, 4), 240, 1 + 4 * (1 - byDefault));
                check.due("redundant(1) with ports to " + last, firewall.redundant(1), last == 15);
            }
            for (int first = 0; first <= 1; first++) {
                StatefulFirewall firewall = new StatefulFirewall(4, 4, byDefault);
                firewall.addRule(Sample.prefix(0, 4), Sample.prefix(0, 4), Sample.range(first, 15), 4 * byDefault);
                firewall.addRule(Sample.prefix(0, 4), Sample.prefix(0, 4), 240, 4 * (1 - byDefault));
                check.due("redundant(1) with ports from " + first, firewall.redundant(1), first == 0);
            }
        }
    }

    private static void sameDefaultIsKept(Check check) {
        check.sentence("That list keeps the same default");
        int[] given = {Sample.MIN, -1, 0, 1, 2, Sample.MAX};
        for (int action : given) {
            StatefulFirewall dropping = new StatefulFirewall(4, 4, action);
            dropping.addRule(0, 0, 240, Sample.DROP_ANY);
            check.due("redundant(0) of DROP by default " + action, dropping.redundant(0), action < 1);
            StatefulFirewall accepting = new StatefulFirewall(4, 4, action);
            accepting.addRule(0, 0, 240, Sample.ACCEPT_ANY);
            check.due("redundant(0) of ACCEPT by default " + action, accepting.redundant(0), action > 0);
        }
    }

    private static void orderIsKept(Check check) {
        check.sentence("and the same order of the remaining rules");
        for (int index = 0; index < 15; index++) {
            // Behind the rule, the next one that matches decides: the nearest, not the last.
            StatefulFirewall firewall = Sample.dropAll();
            for (int i = 0; i < 16; i++) {
                boolean near = i == index || i == index + 1;
                int source = i < index ? Sample.prefix(15, 4) : Sample.prefix(0, 1);
                firewall.addRule(source, 0, 240, near ? Sample.ACCEPT_ANY : Sample.DROP_ANY);
            }
            check.due("redundant(" + index + ") before its like", firewall.redundant(index), true);
            check.due("redundant of its like", firewall.redundant(index + 1), true);
            firewall.removeRule(index + 1);
            check.due("redundant(" + index + ") before others", firewall.redundant(index), false);
        }
    }

    private static void removalLeavesClassify(Check check) {
        check.sentence("Whenever redundant(i) answers true, calling removeRule(i) leaves the answer of classify "
            + "unchanged for every valid header.");
        Numbers numbers = new Numbers(99);
        int seen = 0;
        for (int run = 0; run < 40; run++) {
            RuleList list = new RuleList(numbers);
            StatefulFirewall firewall = list.firewall();
            for (int index = 0; index < list.count(); index++) {
                boolean redundant = firewall.redundant(index);
                seen += redundant ? 1 : 0;
                check.due("removal changes classify", list.removalChanges(index), !redundant);
            }
        }
        check.due("redundant rules were seen", seen > 20, true);
    }

    private static void asksOnly(Check check) {
        check.sentence("The call changes nothing.");
        check.changesNothing("redundant(0)", Sample::busy, firewall -> firewall.redundant(0) ? 1 : 0, 1);
        check.changesNothing("redundant(1)", Sample::busy, firewall -> firewall.redundant(1) ? 1 : 0, 0);
        check.changesNothing("redundant(15)", Places::fullOfSixteen, firewall -> firewall.redundant(15) ? 1 : 0, 0);
        check.changesNothing("redundant(16)", Places::fullOfSixteen, firewall -> firewall.redundant(16) ? 1 : 0, 0);
        check.changesNothing("redundant(0)", Places::newAccepting, firewall -> firewall.redundant(0) ? 1 : 0, 0);
    }
}
