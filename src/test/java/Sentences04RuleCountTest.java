/** Every sentence of promise 4. */
public final class Sentences04RuleCountTest {
    public static void main(String[] args) {
        Check check = new Check();
        countIsWithinTheCapacity(check);
        asksOnly(check);
        check.end();
    }

    private static void countIsWithinTheCapacity(Check check) {
        check.sentence("ruleCount() answers the number of rules in the list, which is always in 0..ruleCap");
        for (int cap = 4; cap <= 16; cap++) {
            StatefulFirewall firewall = new StatefulFirewall(cap, 4, 0);
            for (int i = 0; i <= cap + 3; i++) {
                check.due("ruleCount() after " + i + " of " + cap, firewall.ruleCount(), Math.min(i, cap));
                firewall.addRule(0, 0, 240, 6);
            }
            for (int left = cap; left >= -3; left--) {
                check.due("ruleCount() down to " + left, firewall.ruleCount(), Math.max(left, 0));
                firewall.removeRule(0);
            }
        }
    }

    private static void asksOnly(Check check) {
        check.sentence("It changes nothing.");
        check.changesNothing("ruleCount() of none", Places::newDropping, StatefulFirewall::ruleCount, 0);
        check.changesNothing("ruleCount() of some", Sample::busy, StatefulFirewall::ruleCount, 3);
        check.changesNothing("ruleCount() of four", Places::fullOfFour, StatefulFirewall::ruleCount, 4);
        check.changesNothing("ruleCount() of sixteen", Places::fullOfSixteen, StatefulFirewall::ruleCount, 16);
    }
}
