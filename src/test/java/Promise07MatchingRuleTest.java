/** Promise 7: matchingRule. */
public final class Promise07MatchingRuleTest {
    private static final int BAD = StatefulFirewall.BAD;
    private static final int NO_MATCH = StatefulFirewall.NO_MATCH;

    public static void main(String[] args) {
        Check check = new Check();
        prefixesMatch(check);
        portRangesMatch(check);
        protocolsMatch(check);
        allPartsMustMatch(check);
        lowestIndexWins(check);
        emptyListMatchesNothing(check);
        refusesInvalidHeaders(check);
        check.end();
    }

    private static StatefulFirewall withRule(int src, int dst, int range, int action) {
        StatefulFirewall firewall = Sample.dropAll();
        firewall.addRule(src, dst, range, action);
        return firewall;
    }

    private static void prefixesMatch(Check check) {
        for (int length = 0; length <= 4; length++) {
            int size = 16 >> length;
            for (int first = 0; first < 16; first += size) {
                int prefix = Sample.prefix(first, length);
                StatefulFirewall bySource = withRule(prefix, Sample.ALL, Sample.ALL_PORTS, Sample.DROP_ANY);
                StatefulFirewall byTarget = withRule(Sample.ALL, prefix, Sample.ALL_PORTS, Sample.DROP_ANY);
                for (int addrs = 0; addrs < 256; addrs++) {
                    int src = addrs & 15;
                    int dst = addrs >> 4;
                    int source = src >= first && src < first + size ? 0 : NO_MATCH;
                    int target = dst >= first && dst < first + size ? 0 : NO_MATCH;
                    check.due("matchingRule by source " + prefix, bySource.matchingRule(addrs, 7, 0), source);
                    check.due("matchingRule by target " + prefix, byTarget.matchingRule(addrs, 7, 1), target);
                }
            }
        }
    }

    private static void portRangesMatch(Check check) {
        for (int low = 0; low < 16; low++) {
            for (int high = low; high < 16; high++) {
                int range = Sample.range(low, high);
                StatefulFirewall firewall = withRule(Sample.ALL, Sample.ALL, range, Sample.ACCEPT_ANY);
                for (int ports = 0; ports < 256; ports++) {
                    int dport = ports >> 4;
                    int want = dport >= low && dport <= high ? 0 : NO_MATCH;
                    check.due("matchingRule by ports " + range, firewall.matchingRule(33, ports, 0), want);
                }
            }
        }
    }

    private static void protocolsMatch(Check check) {
        int[] actions = {0, 1, 2, 4, 5, 6};
        for (int action : actions) {
            StatefulFirewall firewall = withRule(Sample.ALL, Sample.ALL, Sample.ALL_PORTS, action);
            boolean tcp = action != 1 && action != 5;
            boolean udp = action != 0 && action != 4;
            check.due("matchingRule of TCP by " + action, firewall.matchingRule(1, 2, 0), tcp ? 0 : NO_MATCH);
            check.due("matchingRule of UDP by " + action, firewall.matchingRule(1, 2, 1), udp ? 0 : NO_MATCH);
        }
    }

    private static void allPartsMustMatch(Check check) {
        StatefulFirewall firewall = withRule(Sample.prefix(6, 3), Sample.prefix(12, 2), Sample.range(4, 9), 5);
        check.due("matchingRule of a match", firewall.matchingRule(7 + 16 * 13, 9 * 16, 1), 0);
        check.due("matchingRule of another source", firewall.matchingRule(8 + 16 * 13, 9 * 16, 1), NO_MATCH);
        check.due("matchingRule of another target", firewall.matchingRule(7 + 16 * 11, 9 * 16, 1), NO_MATCH);
        check.due("matchingRule of another port", firewall.matchingRule(7 + 16 * 13, 10 * 16, 1), NO_MATCH);
        check.due("matchingRule of another protocol", firewall.matchingRule(7 + 16 * 13, 9 * 16, 0), NO_MATCH);
        check.due("matchingRule the other way", firewall.matchingRule(13 + 16 * 7, 9, 1), NO_MATCH);
    }

    private static void lowestIndexWins(Check check) {
        StatefulFirewall firewall = Sample.dropAll();
        for (int i = 0; i < 15; i++) {
            firewall.addRule(Sample.prefix(i, 4), Sample.ALL, Sample.ALL_PORTS, i % 2 == 0 ? 2 : 6);
        }
        firewall.addRule(Sample.ALL, Sample.ALL, Sample.ALL_PORTS, Sample.ACCEPT_ANY);
        View before = View.of(firewall);
        for (int src = 0; src < 16; src++) {
            check.due("matchingRule of source " + src, firewall.matchingRule(src, 0, 0), src);
        }
        check.unchanged("matchingRule", firewall, before);
        firewall.removeRule(4);
        check.due("matchingRule of source 4 after removal", firewall.matchingRule(4, 0, 0), 14);
        check.due("matchingRule of source 5 after removal", firewall.matchingRule(5, 0, 0), 4);
    }

    private static void emptyListMatchesNothing(Check check) {
        StatefulFirewall firewall = Sample.acceptAll();
        for (int header = 0; header < Sample.HEADERS; header++) {
            int got = firewall.matchingRule(Sample.addrsOf(header), Sample.portsOf(header), Sample.protoOf(header));
            check.due("matchingRule of an empty list", got, NO_MATCH);
        }
    }

    private static void refusesInvalidHeaders(Check check) {
        StatefulFirewall firewall = Sample.busy();
        View before = View.of(firewall);
        for (int wrong : Sample.outside(255)) {
            check.due("matchingRule(" + wrong + ", 0, 0)", firewall.matchingRule(wrong, 0, 0), BAD);
            check.due("matchingRule(0, " + wrong + ", 0)", firewall.matchingRule(0, wrong, 0), BAD);
        }
        for (int wrong : Sample.outside(1)) {
            check.due("matchingRule(0, 0, " + wrong + ")", firewall.matchingRule(0, 0, wrong), BAD);
        }
        check.unchanged("a wrong matchingRule", firewall, before);
    }
}
