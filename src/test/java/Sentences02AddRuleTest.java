/** Every sentence of promise 2. */
public final class Sentences02AddRuleTest {
    private static final int BAD = StatefulFirewall.BAD;

    public static void main(String[] args) {
        Check check = new Check();
        appendsAtCount(check);
        refusesAnyInvalidPart(check);
        refusesNoOtherCase(check);
        refusesPrefixes(check);
        refusesPortRanges(check);
        refusesProtoActions(check);
        refusesOnAFullList(check);
        storesExactly(check);
        answersTheOldCount(check);
        countGrowsByOne(check);
        leavesTableAndClock(check);
        check.end();
    }

    private static void adds(Check check, int src, int dst, int range, int action, boolean valid) {
        String call = "addRule(" + src + ", " + dst + ", " + range + ", " + action + ")";
        if (valid) {
            check.due(call, Sample.busy().addRule(src, dst, range, action), 3);
        } else {
            check.changesNothing(call, Sample::busy, firewall -> firewall.addRule(src, dst, range, action), BAD);
        }
    }

    private static void appendsAtCount(Check check) {
        check.sentence("addRule(srcPrefix, dstPrefix, portRange, protoAction) appends a rule at index count.");
        StatefulFirewall firewall = Sample.busy();
        firewall.addRule(79, 64, 17, 5);
        check.due("ruleInfo(3, 0)", firewall.ruleInfo(3, 0), 79);
        check.due("ruleInfo(3, 3)", firewall.ruleInfo(3, 3), 5);
        check.due("ruleInfo(4, 0)", firewall.ruleInfo(4, 0), BAD);
    }

    private static void refusesAnyInvalidPart(Check check) {
        check.sentence("It answers BAD and changes nothing if any part is invalid by the rules in Terms.");
        int[] prefixes = {79, 80};
        int[] ranges = {255, 256};
        int[] actions = {6, 7};
        for (int number = 0; number < 16; number++) {
            adds(check, prefixes[number & 1], prefixes[number >> 1 & 1], ranges[number >> 2 & 1], actions[number >> 3],
                number == 0);
        }
    }

    private static void refusesNoOtherCase(Check check) {
        check.sentence("The refused cases are");
        // How many values each part has; the three cases below leave no other.
        int prefixes = 0;
        int ranges = 0;
        int actions = 0;
        for (int part = -300; part <= 600; part++) {
            prefixes += taken(part, 0, 240, 6);
            check.due("prefix " + part + " as target", taken(0, part, 240, 6), taken(part, 0, 240, 6));
            ranges += taken(0, 0, part, 6);
            actions += taken(0, 0, 240, part);
        }
        check.due("prefixes taken", prefixes, 1 + 2 + 4 + 8 + 16);
        check.due("port ranges taken", ranges, 16 * 17 / 2);
        check.due("protocols with actions taken", actions, 3 * 2);
    }

    /** 1 if a firewall with room takes the rule, else 0. */
    private static int taken(int src, int dst, int range, int action) {
        return Sample.busy().addRule(src, dst, range, action) == BAD ? 0 : 1;
    }

    private static void refusesPrefixes(Check check) {
        check.sentence("srcPrefix or dstPrefix outside 0..79, or with nonzero low 4-len bits of a");
        int[] valid = {0, 16, 24, 32, 36, 44, 48, 50, 62, 64, 65, 79};
        int[] invalid = {-16, -1, 1, 8, 15, 17, 20, 23, 25, 31, 33, 34, 35, 37, 47, 49, 51, 63, 80, 81, 96};
        for (int prefix : valid) {
            adds(check, prefix, 0, 240, 6, true);
            adds(check, 0, prefix, 240, 6, true);
        }
        for (int prefix : invalid) {
            adds(check, prefix, 0, 240, 6, false);
            adds(check, 0, prefix, 240, 6, false);
        }
        for (int prefix : Sample.outside(79)) {
            adds(check, prefix, 0, 240, 6, false);
            adds(check, 0, prefix, 240, 6, false);
        }
    }

    private static void refusesPortRanges(Check check) {
        check.sentence("portRange outside 0..255, or with lo > hi");
        for (int high = 0; high < 16; high++) {
            adds(check, 0, 0, Sample.range(high, high), 6, true);
            if (high < 15) {
                adds(check, 0, 0, Sample.range(high + 1, high), 6, false);
            }
        }
        adds(check, 0, 0, Sample.range(0, 15), 6, true);
        adds(check, 0, 0, Sample.range(15, 0), 6, false);
        adds(check, 0, 0, Sample.range(0, 16), 6, false);
        adds(check, 0, 0, Sample.range(0, -1), 6, false);
        for (int range : Sample.outside(255)) {
            adds(check, 0, 0, range, 6, false);
        }
    }

    private static void refusesProtoActions(Check check) {
        check.sentence("protoAction outside 0..7, or with protoAction%4 == 3");
        for (int action = -9; action <= 20; action++) {
            boolean valid = action >= 0 && action <= 6 && action != 3;
            adds(check, 0, 0, 240, action, valid);
        }
        for (int action : Sample.outside(7)) {
            adds(check, 0, 0, 240, action, false);
        }
    }

    private static void refusesOnAFullList(Check check) {
        check.sentence("It also answers BAD, changing nothing, if the list already holds ruleCap rules.");
        for (int cap = 4; cap <= 16; cap++) {
            int capacity = cap;
            check.changesNothing("addRule on a full list of " + cap, () -> full(capacity),
                firewall -> firewall.addRule(0, 0, 240, 6), BAD);
            check.changesNothing("a wrong addRule on a full list of " + cap, () -> full(capacity),
                firewall -> firewall.addRule(0, 0, 240, 3), BAD);
            StatefulFirewall firewall = full(cap);
            firewall.removeRule(cap - 1);
            check.due("addRule on a list of one less than " + cap, firewall.addRule(0, 0, 240, 6), cap - 1);
            check.due("addRule on a full list again", firewall.addRule(0, 0, 240, 6), BAD);
        }
    }

    private static StatefulFirewall full(int cap) {
        StatefulFirewall firewall = new StatefulFirewall(cap, 4, 0);
        for (int i = 0; i < cap; i++) {
            firewall.addRule(Sample.prefix(i, 4), 0, 240, 4 + i % 3);
        }
        Sample.lead(firewall, StatefulFirewall.ESTABLISHED, 9, 249);
        return firewall;
    }

    private static void storesExactly(Check check) {
        check.sentence("Otherwise the rule is stored exactly as given after all existing rules");
        int[][] rules = {{0, 0, 0, 0}, {79, 79, 255, 6}, {64, 24, 240, 4}, {24, 64, 17, 2}};
        StatefulFirewall firewall = new StatefulFirewall(4, 4, 0);
        for (int[] rule : rules) {
            firewall.addRule(rule[0], rule[1], rule[2], rule[3]);
            int last = firewall.ruleCount() - 1;
            for (int part = 0; part < 4; part++) {
                check.due("ruleInfo(" + last + ", " + part + ")", firewall.ruleInfo(last, part), rule[part]);
            }
        }
    }

    private static void answersTheOldCount(Check check) {
        check.sentence("the call answers the new rule's index, which is the old count");
        StatefulFirewall firewall = Sample.dropAll();
        for (int count = 0; count < 16; count++) {
            check.due("ruleCount()", firewall.ruleCount(), count);
            check.due("addRule of " + count, firewall.addRule(0, 0, 240, 6), count);
        }
        firewall.removeRule(0);
        check.due("addRule after a removal", firewall.addRule(0, 0, 240, 6), 15);
    }

    private static void countGrowsByOne(Check check) {
        check.sentence("The count grows by one, and earlier rules keep their indices and contents.");
        StatefulFirewall firewall = Sample.dropAll();
        for (int count = 1; count <= 16; count++) {
            firewall.addRule(63 + count, 80 - count, 239 + count, count % 3);
            check.due("ruleCount()", firewall.ruleCount(), count);
            for (int i = 0; i < count; i++) {
                check.due("part 0 of rule " + i, firewall.ruleInfo(i, 0), 64 + i);
                check.due("part 1 of rule " + i, firewall.ruleInfo(i, 1), 79 - i);
                check.due("part 2 of rule " + i, firewall.ruleInfo(i, 2), 240 + i);
                check.due("part 3 of rule " + i, firewall.ruleInfo(i, 3), (i + 1) % 3);
            }
        }
    }

    private static void leavesTableAndClock(Check check) {
        check.sentence("The connection table and the clock are not touched.");
        StatefulFirewall firewall = full(4);
        firewall.tick(1);
        firewall.removeRule(3);
        View before = View.of(firewall);
        check.due("addRule", firewall.addRule(0, 0, 240, Sample.DROP_ANY), 3);
        check.entriesAndClockUnchanged("addRule", firewall, before);
        check.due("addRule on a full list", firewall.addRule(0, 0, 240, Sample.DROP_ANY), BAD);
        check.entriesAndClockUnchanged("addRule on a full list", firewall, before);
    }
}
