/** Promise 4: ruleCount. */
public final class Promise04RuleCountTest {
    public static void main(String[] args) {
        Check check = new Check();
        StatefulFirewall firewall = new StatefulFirewall(5, 5, 1);
        check.due("ruleCount() of a new firewall", firewall.ruleCount(), 0);
        for (int round = 0; round < 3; round++) {
            fill(check, firewall);
            drain(check, firewall);
        }
        asksOnly(check);
        check.end();
    }

    private static void fill(Check check, StatefulFirewall firewall) {
        for (int i = 1; i <= 8; i++) {
            firewall.addRule(0, 0, 240, 6);
            check.due("ruleCount() after " + i + " rules", firewall.ruleCount(), i < 5 ? i : 5);
            firewall.addRule(0, 0, 240, 3);
            check.due("ruleCount() after a wrong rule", firewall.ruleCount(), i < 5 ? i : 5);
        }
        firewall.packet(0, 0, Sample.UDP, 0);
        firewall.tick(1);
        check.due("ruleCount() after packet and tick", firewall.ruleCount(), 5);
    }

    private static void drain(Check check, StatefulFirewall firewall) {
        for (int left = 4; left >= 0; left--) {
            firewall.removeRule(left / 2);
            check.due("ruleCount() after removal", firewall.ruleCount(), left);
            firewall.removeRule(left);
            check.due("ruleCount() after a wrong removal", firewall.ruleCount(), left);
        }
    }

    private static void asksOnly(Check check) {
        StatefulFirewall firewall = Sample.busy();
        View before = View.of(firewall);
        check.due("ruleCount()", firewall.ruleCount(), 3);
        check.due("ruleCount() again", firewall.ruleCount(), 3);
        check.unchanged("ruleCount()", firewall, before);
    }
}
