/** Promise 2: addRule. */
public final class Promise02AddRuleTest {
    private static final int BAD = StatefulFirewall.BAD;

    public static void main(String[] args) {
        Check check = new Check();
        takesExactlyTheValidParts(check);
        refusesFarParts(check);
        appendsInOrder(check);
        refusesWhenFull(check);
        refusalChangesNothing(check);
        leavesEntriesAndClock(check);
        check.end();
    }

    private static boolean validPrefix(int prefix) {
        if (prefix < 0 || prefix > 79) {
            return false;
        }
        // The addresses that may stand before a prefix length, by length.
        int[] step = {16, 8, 4, 2, 1};
        return (prefix & 15) % step[prefix >> 4] == 0;
    }

    private static void takesExactlyTheValidParts(Check check) {
        for (int part = -300; part <= 600; part++) {
            boolean prefix = validPrefix(part);
            boolean range = part >= 0 && part <= 255 && (part & 15) <= part >> 4;
            boolean action = part >= 0 && part <= 6 && part != 3;
            takes(check, part, 0, 0, 0, prefix);
            takes(check, 0, part, 0, 0, prefix);
            takes(check, 0, 0, part, 0, range);
            takes(check, 0, 0, 0, part, action);
        }
    }

    private static void refusesFarParts(Check check) {
        int[] far = {Sample.MIN, Sample.MIN + 1, Sample.MIN + 16, -65536, 65536, 1 << 20, Sample.MAX - 15, Sample.MAX};
        for (int part : far) {
            takes(check, part, 0, 0, 0, false);
            takes(check, 0, part, 0, 0, false);
            takes(check, 0, 0, part, 0, false);
            takes(check, 0, 0, 0, part, false);
        }
    }

    private static void takes(Check check, int src, int dst, int range, int action, boolean valid) {
        StatefulFirewall firewall = new StatefulFirewall(4, 4, 0);
        String call = "addRule(" + src + ", " + dst + ", " + range + ", " + action + ")";
        check.due(call, firewall.addRule(src, dst, range, action), valid ? 0 : BAD);
        check.due("ruleCount() after " + call, firewall.ruleCount(), valid ? 1 : 0);
        check.due("part 0 after " + call, firewall.ruleInfo(0, 0), valid ? src : BAD);
        check.due("part 1 after " + call, firewall.ruleInfo(0, 1), valid ? dst : BAD);
        check.due("part 2 after " + call, firewall.ruleInfo(0, 2), valid ? range : BAD);
        check.due("part 3 after " + call, firewall.ruleInfo(0, 3), valid ? action : BAD);
    }

    private static void appendsInOrder(Check check) {
        StatefulFirewall firewall = Sample.dropAll();
        for (int i = 0; i < 16; i++) {
            check.due("addRule number " + i, firewall.addRule(64 + i, 79 - i, 240 + i, i % 3), i);
            for (int j = 0; j <= i; j++) {
                check.due("part 0 of rule " + j, firewall.ruleInfo(j, 0), 64 + j);
                check.due("part 1 of rule " + j, firewall.ruleInfo(j, 1), 79 - j);
                check.due("part 2 of rule " + j, firewall.ruleInfo(j, 2), 240 + j);
                check.due("part 3 of rule " + j, firewall.ruleInfo(j, 3), j % 3);
            }
        }
    }

    private static void refusesWhenFull(Check check) {
        for (int cap = 4; cap <= 16; cap++) {
            StatefulFirewall firewall = new StatefulFirewall(cap, 4, 0);
            for (int i = 0; i < cap; i++) {
                check.due("addRule below the capacity", firewall.addRule(64 + i, 0, 240, 6), i);
            }
            View before = View.of(firewall);
            check.due("addRule on a full list", firewall.addRule(0, 0, 240, 4), BAD);
            check.due("a wrong addRule on a full list", firewall.addRule(1, 0, 240, 4), BAD);
            check.unchanged("addRule on a full list", firewall, before);
            check.due("removeRule(1)", firewall.removeRule(1), cap - 1);
            check.due("addRule after removal", firewall.addRule(0, 64, 17, 5), cap - 1);
        }
    }

    private static void refusalChangesNothing(Check check) {
        StatefulFirewall firewall = Sample.busy();
        View before = View.of(firewall);
        int[][] refused = {{80, 0, 0, 0}, {1, 0, 0, 0}, {0, 17, 0, 0}, {0, -1, 0, 0}, {0, 0, 1, 0},
            {0, 0, 256, 0}, {0, 0, 0, 3}, {0, 0, 0, 7}, {0, 0, 0, 8}, {0, 0, 0, -1}};
        for (int[] rule : refused) {
            check.due("a wrong addRule", firewall.addRule(rule[0], rule[1], rule[2], rule[3]), BAD);
            check.unchanged("a wrong addRule", firewall, before);
        }
    }

    private static void leavesEntriesAndClock(Check check) {
        StatefulFirewall firewall = Sample.busy();
        View before = View.of(firewall);
        check.due("addRule", firewall.addRule(Sample.ALL, Sample.ALL, Sample.ALL_PORTS, Sample.DROP_ANY), 3);
        check.entriesAndClockUnchanged("addRule", firewall, before);
    }
}
