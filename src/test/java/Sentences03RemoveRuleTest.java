/** Every sentence of promise 3. */
public final class Sentences03RemoveRuleTest {
    private static final int BAD = StatefulFirewall.BAD;

    public static void main(String[] args) {
        Check check = new Check();
        refusesIndicesBesideTheList(check);
        refusesEveryIndexOfAnEmptyList(check);
        removesThatRule(check);
        laterRulesMoveDown(check);
        answersTheNewCount(check);
        leavesTableAndClock(check);
        check.end();
    }

    private static StatefulFirewall listOf(int count) {
        StatefulFirewall firewall = Sample.dropAll();
        for (int i = 0; i < count; i++) {
            firewall.addRule(Sample.prefix(i, 4), Sample.prefix(15 - i, 4), Sample.range(i, 15), i % 3 + 4 * (i & 1));
        }
        return firewall;
    }

    private static void refusesIndicesBesideTheList(Check check) {
        check.sentence("removeRule(index) answers BAD and changes nothing if index is not in 0..count-1");
        for (int count = 1; count <= 16; count++) {
            int held = count;
            for (int index : Sample.outside(count - 1)) {
                check.changesNothing("removeRule(" + index + ") of " + count, () -> listOf(held),
                    firewall -> firewall.removeRule(index), BAD);
            }
            check.due("removeRule(0) of " + count, listOf(count).removeRule(0), count - 1);
            check.due("removeRule(" + (count - 1) + ") of " + count, listOf(count).removeRule(count - 1), count - 1);
        }
    }

    private static void refusesEveryIndexOfAnEmptyList(Check check) {
        check.sentence("This includes every index when the list is empty.");
        for (int index = -20; index <= 20; index++) {
            int asked = index;
            check.changesNothing("removeRule(" + index + ") of none", () -> listOf(0),
                firewall -> firewall.removeRule(asked), BAD);
            check.changesNothing("removeRule(" + index + ") of none any more", Sentences03RemoveRuleTest::emptied,
                firewall -> firewall.removeRule(asked), BAD);
        }
        for (int index : Sample.outside(0)) {
            check.changesNothing("removeRule(" + index + ") of none", () -> listOf(0),
                firewall -> firewall.removeRule(index), BAD);
        }
        check.due("removeRule(0) of one", listOf(1).removeRule(0), 0);
    }

    private static StatefulFirewall emptied() {
        StatefulFirewall firewall = listOf(16);
        for (int i = 0; i < 16; i++) {
            firewall.removeRule(0);
        }
        return firewall;
    }

    private static void removesThatRule(Check check) {
        check.sentence("Otherwise it removes that rule.");
        for (int index = 0; index < 16; index++) {
            StatefulFirewall firewall = listOf(16);
            // The list has one rule from each source to a target of its own, over the ports from the source's number.
            int addrs = index + 16 * (15 - index);
            int proto = index % 3 == StatefulFirewall.UDP ? Sample.UDP : Sample.TCP;
            check.due("matchingRule before", firewall.matchingRule(addrs, 255, proto), index);
            firewall.removeRule(index);
            check.due("matchingRule after", firewall.matchingRule(addrs, 255, proto), StatefulFirewall.NO_MATCH);
            check.due("classify after", firewall.classify(addrs, 255, proto), StatefulFirewall.DROP);
            for (int rule = 0; rule < 16; rule++) {
                check.due("rule " + rule + " is the removed one", firewall.ruleInfo(rule, 0) == 64 + index, false);
            }
        }
    }

    private static void laterRulesMoveDown(Check check) {
        check.sentence("Every later rule moves down one index with order kept, and earlier rules keep their indices.");
        for (int count = 1; count <= 16; count++) {
            for (int index = 0; index < count; index++) {
                StatefulFirewall whole = listOf(count);
                StatefulFirewall firewall = listOf(count);
                firewall.removeRule(index);
                for (int cell = 0; cell < 4 * (count - 1); cell++) {
                    int rule = cell / 4;
                    int want = whole.ruleInfo(rule < index ? rule : rule + 1, cell % 4);
                    String call = "part " + cell % 4 + " of rule " + rule + " after removeRule(" + index + ")";
                    check.due(call, firewall.ruleInfo(rule, cell % 4), want);
                }
                check.due("ruleInfo past the end", firewall.ruleInfo(count - 1, 0), BAD);
            }
        }
    }

    private static void answersTheNewCount(Check check) {
        check.sentence("The call answers the new count, which is the old count minus one.");
        StatefulFirewall fromFront = listOf(16);
        StatefulFirewall fromBack = listOf(16);
        for (int left = 15; left >= 0; left--) {
            check.due("removeRule(0)", fromFront.removeRule(0), left);
            check.due("ruleCount()", fromFront.ruleCount(), left);
            check.due("removeRule(" + left + ")", fromBack.removeRule(left), left);
            check.due("ruleCount()", fromBack.ruleCount(), left);
        }
        check.due("removeRule(0) of none", fromFront.removeRule(0), BAD);
        check.due("removeRule(0) of none", fromBack.removeRule(0), BAD);
    }

    private static void leavesTableAndClock(Check check) {
        check.sentence("The connection table is not touched, and neither is the clock.");
        StatefulFirewall firewall = Places.fullOfSixteen();
        View before = View.of(firewall);
        firewall.removeRule(0);
        check.entriesAndClockUnchanged("removeRule(0)", firewall, before);
        for (int i = 0; i < 15; i++) {
            firewall.removeRule(firewall.ruleCount() - 1);
        }
        check.due("ruleCount()", firewall.ruleCount(), 0);
        check.entriesAndClockUnchanged("removing every rule", firewall, before);
        check.due("a packet of a flow that no rule accepts", new Flow(2).tcp(firewall, 0, Sample.ACK, 11),
            StatefulFirewall.V_PASS);
    }
}
