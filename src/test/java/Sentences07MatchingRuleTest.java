/** Every sentence of promise 7. */
public final class Sentences07MatchingRuleTest {
    private static final int NO_MATCH = StatefulFirewall.NO_MATCH;

    public static void main(String[] args) {
        Check check = new Check();
        refusesInvalidHeaders(check);
        lowestIndexIsAnswered(check);
        allPartsMatch(check);
        withoutAMatchNoMatch(check);
        emptyListMatchesNothing(check);
        asksOnly(check);
        check.end();
    }

    private static void refusesInvalidHeaders(Check check) {
        check.sentence("matchingRule(addrs, ports, proto) answers BAD for an invalid header.");
        Headers.refusesInvalid(check, HeaderCall.MATCHING_RULE);
    }

    private static void lowestIndexIsAnswered(Check check) {
        check.sentence("Otherwise it answers the lowest index i in 0..ruleCount()-1");
        for (int count = 1; count <= 16; count++) {
            for (int first = 0; first < count; first++) {
                StatefulFirewall firewall = new StatefulFirewall(count, 4, 0);
                for (int i = 0; i < count; i++) {
                    firewall.addRule(i < first ? Sample.prefix(8, 1) : 0, 0, 240, 2 + 4 * (i & 1));
                }
                String list = " of " + count + ", the first to match being " + first;
                check.due("matchingRule" + list, firewall.matchingRule(7, 0, 0), first);
                check.due("matchingRule of a source that all match" + list, firewall.matchingRule(8, 0, 0), 0);
            }
        }
    }

    private static void allPartsMatch(Check check) {
        check.sentence("whose stored srcPrefix, dstPrefix, portRange and protoAction, as read back by ruleInfo, "
            + "all match the header");
        Numbers numbers = new Numbers(7);
        for (int run = 0; run < 30; run++) {
            RuleList list = new RuleList(numbers);
            StatefulFirewall firewall = list.firewall();
            for (int tuple = 0; tuple < 8192; tuple++) {
                int want = NO_MATCH;
                for (int rule = list.count() - 1; rule >= 0; rule--) {
                    want = list.matches(rule, tuple) ? rule : want;
                }
                int ports = (tuple >> 8 & 15) << 4 | run & 15;
                check.due("matchingRule", firewall.matchingRule(tuple & 255, ports, tuple >> 12), want);
            }
        }
    }

    private static void withoutAMatchNoMatch(Check check) {
        check.sentence("If no rule matches, it answers NO_MATCH");
        StatefulFirewall firewall = Sample.acceptAll();
        for (int i = 0; i < 16; i++) {
            if (i != 7) {
                firewall.addRule(Sample.prefix(i, 4), 0, 240, Sample.ACCEPT_ANY);
            }
        }
        check.due("matchingRule of source 6", firewall.matchingRule(6, 0, 0), 6);
        check.due("matchingRule of source 7", firewall.matchingRule(7, 0, 0), NO_MATCH);
        check.due("matchingRule of source 8", firewall.matchingRule(8, 0, 0), 7);
        check.due("matchingRule of source 15", firewall.matchingRule(15, 0, 0), 14);
        firewall.addRule(Sample.prefix(7, 4), 0, 240, Sample.ACCEPT_ANY);
        check.due("matchingRule of source 7 by the last", firewall.matchingRule(7, 0, 0), 15);
    }

    private static void emptyListMatchesNothing(Check check) {
        check.sentence("which is always the case for an empty list");
        StatefulFirewall fresh = Sample.acceptAll();
        StatefulFirewall emptied = Sample.acceptAll();
        for (int i = 0; i < 16; i++) {
            emptied.addRule(0, 0, 240, Sample.ACCEPT_ANY);
        }
        check.due("matchingRule before it is emptied", emptied.matchingRule(0, 0, 0), 0);
        for (int i = 0; i < 16; i++) {
            emptied.removeRule(0);
        }
        for (int header = 0; header < Sample.HEADERS; header++) {
            int addrs = Sample.addrsOf(header);
            int ports = Sample.portsOf(header);
            int proto = Sample.protoOf(header);
            check.due("matchingRule of none", fresh.matchingRule(addrs, ports, proto), NO_MATCH);
            check.due("matchingRule of none any more", emptied.matchingRule(addrs, ports, proto), NO_MATCH);
        }
    }

    private static void asksOnly(Check check) {
        check.sentence("The call changes nothing.");
        Headers.asksOnly(check, HeaderCall.MATCHING_RULE);
    }
}
