/** Promise 5: ruleInfo. */
public final class Promise05RuleInfoTest {
    private static final int BAD = StatefulFirewall.BAD;

    public static void main(String[] args) {
        Check check = new Check();
        answersWhatWasGiven(check);
        refusesWrongIndicesAndParts(check);
        check.end();
    }

    private static void answersWhatWasGiven(Check check) {
        int[][] rules = {{0, 0, 240, 0}, {79, 64, 255, 6}, {24, 44, 0, 5}, {62, 16, 16, 2}, {36, 50, 83, 1}};
        StatefulFirewall firewall = new StatefulFirewall(5, 5, 0);
        for (int[] rule : rules) {
            firewall.addRule(rule[0], rule[1], rule[2], rule[3]);
        }
        View before = View.of(firewall);
        for (int index = 0; index < rules.length; index++) {
            for (int part = 0; part < 4; part++) {
                String call = "ruleInfo(" + index + ", " + part + ")";
                check.due(call, firewall.ruleInfo(index, part), rules[index][part]);
            }
        }
        check.unchanged("ruleInfo", firewall, before);
    }

    private static void refusesWrongIndicesAndParts(Check check) {
        StatefulFirewall firewall = Sample.busy();
        View before = View.of(firewall);
        for (int index : Sample.outside(2)) {
            for (int part = 0; part < 4; part++) {
                check.due("ruleInfo(" + index + ", " + part + ")", firewall.ruleInfo(index, part), BAD);
            }
        }
        for (int part : Sample.outside(3)) {
            for (int index = 0; index < 3; index++) {
                check.due("ruleInfo(" + index + ", " + part + ")", firewall.ruleInfo(index, part), BAD);
            }
        }
        // These pairs would fall on a stored value if index and part were only looked at together.
        check.due("ruleInfo(1, -4)", firewall.ruleInfo(1, -4), BAD);
        check.due("ruleInfo(-1, 4)", firewall.ruleInfo(-1, 4), BAD);
        check.due("ruleInfo(1 << 30, 0)", firewall.ruleInfo(1 << 30, 0), BAD);
        check.due("ruleInfo(3, 0)", firewall.ruleInfo(3, 0), BAD);
        check.unchanged("wrong ruleInfo", firewall, before);
    }
}
