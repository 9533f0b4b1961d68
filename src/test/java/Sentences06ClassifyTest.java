/** Every sentence of promise 6. */
public final class Sentences06ClassifyTest {
    private static final int BAD = StatefulFirewall.BAD;
    private static final int DROP = StatefulFirewall.DROP;
    private static final int ACCEPT = StatefulFirewall.ACCEPT;

    public static void main(String[] args) {
        Check check = new Check();
        refusesInvalidHeaders(check);
        decidesTheTuple(check);
        sportPlaysNoPart(check);
        holdsInEveryState(check);
        followsTheIndex(check);
        followsTheDefault(check);
        entriesPlayNoPart(check);
        asksOnly(check);
        check.end();
    }

    private static void refusesInvalidHeaders(Check check) {
        check.sentence("classify(addrs, ports, proto) answers BAD for an invalid header.");
        Headers.refusesInvalid(check, HeaderCall.CLASSIFY);
    }

    private static void decidesTheTuple(Check check) {
        check.sentence("Otherwise it answers the decision (DROP or ACCEPT) for the tuple (src, dst, dport, proto) "
            + "taken from the header");
        for (int action = 0; action < 2; action++) {
            StatefulFirewall firewall = new StatefulFirewall(4, 4, 1 - action);
            firewall.addRule(Sample.prefix(11, 4), Sample.prefix(6, 4), Sample.range(13, 13), 1 + 4 * action);
            for (int header = 0; header < Sample.HEADERS; header++) {
                int addrs = Sample.addrsOf(header);
                int ports = Sample.portsOf(header);
                int proto = Sample.protoOf(header);
                boolean decided = addrs == 11 + 16 * 6 && ports >> 4 == 13 && proto == 1;
                int want = decided ? action : 1 - action;
                check.due(HeaderCall.CLASSIFY.told(addrs, ports, proto), firewall.classify(addrs, ports, proto), want);
            }
        }
    }

    private static void sportPlaysNoPart(Check check) {
        check.sentence("sport plays no part");
        StatefulFirewall firewall = Sample.dropAll();
        firewall.addRule(0, 0, Sample.range(15, 15), Sample.ACCEPT_ANY);
        for (int sport = 0; sport < 16; sport++) {
            check.due("classify from " + sport + " to 15", firewall.classify(0, sport + 16 * 15, 0), ACCEPT);
            check.due("classify from " + sport + " to 14", firewall.classify(0, sport + 16 * 14, 0), DROP);
        }
    }

    private static void holdsInEveryState(Check check) {
        check.sentence("In every state reached by any sequence of calls, the answer is as follows");
        Numbers numbers = new Numbers(66);
        for (int run = 0; run < 200; run++) {
            int byDefault = numbers.below(2);
            StatefulFirewall firewall = new StatefulFirewall(numbers.below(20), numbers.below(20), byDefault);
            for (int call = 0; call < 60; call++) {
                anyCall(firewall, numbers);
                follows(check, firewall, numbers, byDefault);
            }
        }
    }

    private static void anyCall(StatefulFirewall firewall, Numbers numbers) {
        int kind = numbers.below(8);
        if (kind < 3) {
            firewall.addRule(8 * numbers.below(11), 8 * numbers.below(11), 16 * numbers.below(17), numbers.below(9));
        } else if (kind < 4) {
            firewall.removeRule(numbers.below(17) - 1);
        } else if (kind < 5) {
            firewall.tick(numbers.below(12));
        } else {
            firewall.packet(numbers.below(257), numbers.below(257), numbers.below(4), numbers.below(257));
        }
    }

    private static void follows(Check check, StatefulFirewall firewall, Numbers numbers, int byDefault) {
        for (int i = 0; i < 10; i++) {
            int addrs = numbers.below(256);
            int ports = numbers.below(256);
            int proto = numbers.below(2);
            int index = firewall.matchingRule(addrs, ports, proto);
            int want = index == StatefulFirewall.NO_MATCH ? byDefault : firewall.ruleInfo(index, 3) / 4;
            check.due(HeaderCall.CLASSIFY.told(addrs, ports, proto), firewall.classify(addrs, ports, proto), want);
        }
    }

    private static void followsTheIndex(Check check) {
        check.sentence("when matchingRule for the same header answers an index i, "
            + "classify answers the act part (protoAction/4) of rule i");
        for (int byDefault = 0; byDefault < 2; byDefault++) {
            StatefulFirewall firewall = new StatefulFirewall(16, 4, byDefault);
            for (int i = 0; i < 16; i++) {
                firewall.addRule(Sample.prefix(i, 4), 0, 240, 2 + 4 * (i >> 1 & 1));
            }
            for (int source = 0; source < 16; source++) {
                check.due("matchingRule of " + source, firewall.matchingRule(source, 0, 0), source);
                check.due("classify of " + source, firewall.classify(source, 0, 0), source >> 1 & 1);
            }
        }
    }

    private static void followsTheDefault(Check check) {
        check.sentence("when matchingRule answers NO_MATCH, classify answers the default action "
            + "as clamped by the constructor (DROP or ACCEPT)");
        int[] given = {Sample.MIN, -1, 0, 1, 2, Sample.MAX};
        for (int action : given) {
            int want = action < 1 ? DROP : ACCEPT;
            StatefulFirewall firewall = new StatefulFirewall(4, 4, action);
            check.due("classify of an empty list", firewall.classify(0, 0, 0), want);
            firewall.addRule(0, 0, Sample.range(4, 6), Sample.ACCEPT_ANY - 4 * want);
            check.due("matchingRule beside the rule", firewall.matchingRule(0, 16 * 3, 0), StatefulFirewall.NO_MATCH);
            check.due("classify beside the rule", firewall.classify(0, 16 * 3, 0), want);
            check.due("classify on the rule", firewall.classify(0, 16 * 4, 0), 1 - want);
            check.due("classify on the rule", firewall.classify(0, 16 * 6, 0), 1 - want);
            check.due("classify beside the rule", firewall.classify(0, 16 * 7, 0), want);
            firewall.removeRule(0);
            check.due("classify of an emptied list", firewall.classify(0, 16 * 4, 0), want);
        }
    }

    private static void entriesPlayNoPart(Check check) {
        check.sentence("Connection entries play no part.");
        for (int state = 1; state <= 9; state++) {
            StatefulFirewall firewall = Sample.dropAll();
            firewall.addRule(0, 0, 240, Sample.ACCEPT_ANY);
            Sample.leadAny(firewall, state);
            int proto = Sample.protoOfState(state);
            check.due("classify with the rule", firewall.classify(Sample.ADDRS, Sample.PORTS, proto), ACCEPT);
            firewall.removeRule(0);
            check.due("classify without", firewall.classify(Sample.ADDRS, Sample.PORTS, proto), DROP);
            check.due("classify back", firewall.classify(Sample.REPLY_ADDRS, Sample.REPLY_PORTS, proto), DROP);
        }
        check.due("classify with a full table", Places.fullOfFour().classify(6 + 16 * 9, Sample.PORTS, 0), ACCEPT);
    }

    private static void asksOnly(Check check) {
        check.sentence("The call changes nothing.");
        Headers.asksOnly(check, HeaderCall.CLASSIFY);
    }
}
