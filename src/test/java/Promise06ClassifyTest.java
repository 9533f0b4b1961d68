/** Promise 6: classify. */
public final class Promise06ClassifyTest {
    private static final int BAD = StatefulFirewall.BAD;

    public static void main(String[] args) {
        Check check = new Check();
        followsTheMatchingRule(check, 0);
        followsTheMatchingRule(check, 1);
        firstRuleWins(check);
        sportPlaysNoPart(check);
        entriesPlayNoPart(check);
        refusesInvalidHeaders(check);
        check.end();
    }

    private static void followsTheMatchingRule(Check check, int defaultAction) {
        StatefulFirewall firewall = new StatefulFirewall(8, 8, defaultAction);
        agrees(check, firewall, defaultAction);
        firewall.addRule(Sample.prefix(8, 1), Sample.prefix(4, 2), Sample.range(2, 9), Sample.DROP_TCP);
        firewall.addRule(Sample.prefix(12, 2), Sample.ALL, Sample.range(5, 5), Sample.ACCEPT_ANY);
        firewall.addRule(Sample.ALL, Sample.prefix(5, 4), Sample.range(0, 7), Sample.DROP_UDP);
        firewall.addRule(Sample.prefix(2, 3), Sample.prefix(0, 1), Sample.ALL_PORTS, Sample.ACCEPT_UDP);
        agrees(check, firewall, defaultAction);
        firewall.removeRule(1);
        agrees(check, firewall, defaultAction);
    }

    private static void agrees(Check check, StatefulFirewall firewall, int defaultAction) {
        for (int header = 0; header < Sample.HEADERS; header++) {
            int addrs = Sample.addrsOf(header);
            int ports = Sample.portsOf(header);
            int proto = Sample.protoOf(header);
            int rule = firewall.matchingRule(addrs, ports, proto);
            int want = rule == StatefulFirewall.NO_MATCH ? defaultAction : firewall.ruleInfo(rule, 3) >> 2;
            String call = "classify(" + addrs + ", " + ports + ", " + proto + ")";
            check.due(call, firewall.classify(addrs, ports, proto), want);
        }
    }

    private static void firstRuleWins(Check check) {
        StatefulFirewall firewall = Sample.dropAll();
        firewall.addRule(Sample.prefix(3, 4), Sample.ALL, Sample.ALL_PORTS, Sample.DROP_ANY);
        firewall.addRule(Sample.prefix(2, 3), Sample.ALL, Sample.ALL_PORTS, Sample.ACCEPT_ANY);
        firewall.addRule(Sample.ALL, Sample.ALL, Sample.ALL_PORTS, Sample.DROP_ANY);
        check.due("classify of source 3", firewall.classify(3, 0, 0), StatefulFirewall.DROP);
        check.due("classify of source 2", firewall.classify(2, 0, 0), StatefulFirewall.ACCEPT);
        check.due("classify of source 4", firewall.classify(4, 0, 0), StatefulFirewall.DROP);
    }

    private static void sportPlaysNoPart(Check check) {
        StatefulFirewall firewall = Sample.dropAll();
        firewall.addRule(Sample.ALL, Sample.ALL, Sample.range(4, 6), Sample.ACCEPT_ANY);
        for (int sport = 0; sport < 16; sport++) {
            check.due("classify of sport " + sport + " to 5", firewall.classify(0, sport + 16 * 5, 0), 1);
            check.due("classify of sport " + sport + " to 7", firewall.classify(0, sport + 16 * 7, 0), 0);
        }
    }

    private static void entriesPlayNoPart(Check check) {
        StatefulFirewall firewall = Sample.busy();
        View before = View.of(firewall);
        int way = firewall.classify(Sample.ADDRS, Sample.PORTS, Sample.TCP);
        int back = firewall.classify(Sample.REPLY_ADDRS, Sample.REPLY_PORTS, Sample.TCP);
        check.due("classify of the flow", way, StatefulFirewall.ACCEPT);
        check.due("classify of its replies", back, StatefulFirewall.DROP);
        check.unchanged("classify", firewall, before);
    }

    private static void refusesInvalidHeaders(Check check) {
        StatefulFirewall firewall = Sample.busy();
        View before = View.of(firewall);
        for (int wrong : Sample.outside(255)) {
            check.due("classify(" + wrong + ", 0, 0)", firewall.classify(wrong, 0, 0), BAD);
            check.due("classify(0, " + wrong + ", 0)", firewall.classify(0, wrong, 0), BAD);
        }
        for (int wrong : Sample.outside(1)) {
            check.due("classify(0, 0, " + wrong + ")", firewall.classify(0, 0, wrong), BAD);
        }
        check.unchanged("a wrong classify", firewall, before);
    }
}
