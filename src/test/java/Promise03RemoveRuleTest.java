import java.util.ArrayList;
import java.util.List;

/** Promise 3: removeRule. */
public final class Promise03RemoveRuleTest {
    private static final int BAD = StatefulFirewall.BAD;

    public static void main(String[] args) {
        Check check = new Check();
        closesTheGap(check);
        refusesWrongIndices(check);
        emptyListHasNoIndex(check);
        leavesEntriesAndClock(check);
        removedRuleDecidesNoMore(check);
        check.end();
    }

    private static void closesTheGap(Check check) {
        for (int count = 1; count <= 16; count++) {
            for (int index = 0; index < count; index++) {
                StatefulFirewall firewall = Sample.dropAll();
                List<Integer> kept = new ArrayList<>();
                for (int i = 0; i < count; i++) {
                    firewall.addRule(64 + i, 79 - i, 240 + i, 4 + i % 3);
                    kept.add(i);
                }
                kept.remove(index);
                String call = "removeRule(" + index + ") of " + count;
                check.due(call, firewall.removeRule(index), count - 1);
                check.due("ruleCount() after " + call, firewall.ruleCount(), count - 1);
                holds(check, firewall, kept, call);
            }
        }
    }

    private static void holds(Check check, StatefulFirewall firewall, List<Integer> kept, String call) {
        for (int i = 0; i < kept.size(); i++) {
            int was = kept.get(i);
            check.due("part 0 of rule " + i + " after " + call, firewall.ruleInfo(i, 0), 64 + was);
            check.due("part 1 of rule " + i + " after " + call, firewall.ruleInfo(i, 1), 79 - was);
            check.due("part 2 of rule " + i + " after " + call, firewall.ruleInfo(i, 2), 240 + was);
            check.due("part 3 of rule " + i + " after " + call, firewall.ruleInfo(i, 3), 4 + was % 3);
        }
        check.due("the index past the end after " + call, firewall.ruleInfo(kept.size(), 0), BAD);
    }

    private static void refusesWrongIndices(Check check) {
        StatefulFirewall firewall = Sample.busy();
        View before = View.of(firewall);
        for (int index : Sample.outside(2)) {
            check.due("removeRule(" + index + ")", firewall.removeRule(index), BAD);
        }
        check.unchanged("removeRule of wrong indices", firewall, before);
    }

    private static void emptyListHasNoIndex(Check check) {
        StatefulFirewall firewall = Sample.acceptAll();
        for (int index = -20; index <= 20; index++) {
            check.due("removeRule(" + index + ") of none", firewall.removeRule(index), BAD);
        }
        firewall.addRule(0, 0, 240, 6);
        check.due("removeRule(0) of one", firewall.removeRule(0), 0);
        check.due("removeRule(0) of none", firewall.removeRule(0), BAD);
        check.due("ruleCount()", firewall.ruleCount(), 0);
    }

    private static void leavesEntriesAndClock(Check check) {
        StatefulFirewall firewall = Sample.busy();
        View before = View.of(firewall);
        check.due("removeRule(1)", firewall.removeRule(1), 2);
        check.entriesAndClockUnchanged("removeRule(1)", firewall, before);
        check.due("removeRule(0)", firewall.removeRule(0), 1);
        check.due("removeRule(0)", firewall.removeRule(0), 0);
        check.entriesAndClockUnchanged("removing every rule", firewall, before);
    }

    private static void removedRuleDecidesNoMore(Check check) {
        StatefulFirewall firewall = Sample.dropAll();
        firewall.addRule(Sample.ALL, Sample.ALL, Sample.ALL_PORTS, Sample.ACCEPT_ANY);
        firewall.removeRule(0);
        check.due("matchingRule of none", firewall.matchingRule(0, 0, 0), StatefulFirewall.NO_MATCH);
        check.due("classify of none", firewall.classify(0, 0, 0), StatefulFirewall.DROP);
        check.due("redundant of none", firewall.redundant(0), false);
    }
}
