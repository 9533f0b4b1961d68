/** Promise 15: connDirection. */
public final class Promise15ConnDirectionTest {
    private static final int BAD = StatefulFirewall.BAD;
    private static final int NO_MATCH = StatefulFirewall.NO_MATCH;

    public static void main(String[] args) {
        Check check = new Check();
        everyFlowHasTwoSides(check);
        flowToItselfIsOfTheOrigin(check);
        staysWhileTheEntryStands(check);
        refusesInvalidHeaders(check);
        check.end();
    }

    private static void everyFlowHasTwoSides(Check check) {
        Numbers numbers = new Numbers(15);
        for (int run = 0; run < 2000; run++) {
            int src = numbers.below(16);
            int dst = numbers.below(16);
            int sport = numbers.below(16);
            int dport = numbers.below(16);
            StatefulFirewall firewall = Sample.acceptAll();
            int proto = run % 2;
            firewall.packet(src + 16 * dst, sport + 16 * dport, proto == Sample.UDP ? 1 : Sample.tcp(Sample.SYN), 0);
            boolean self = src == dst && sport == dport;
            String flow = src + ":" + sport + " to " + dst + ":" + dport;
            check.due(flow, firewall.connDirection(src + 16 * dst, sport + 16 * dport, proto), 0);
            check.due(flow + " back", firewall.connDirection(dst + 16 * src, dport + 16 * sport, proto), self ? 0 : 1);
            check.due(flow + ", other protocol", firewall.connDirection(src + 16 * dst, sport + 16 * dport, 1 - proto),
                NO_MATCH);
            if (src != dst && sport != dport) {
                int addrsOnly = firewall.connDirection(dst + 16 * src, sport + 16 * dport, proto);
                int portsOnly = firewall.connDirection(src + 16 * dst, dport + 16 * sport, proto);
                check.due(flow + ", addresses swapped alone", addrsOnly, NO_MATCH);
                check.due(flow + ", ports swapped alone", portsOnly, NO_MATCH);
            }
        }
    }

    private static void flowToItselfIsOfTheOrigin(Check check) {
        StatefulFirewall firewall = Sample.acceptAll();
        for (int i = 0; i < 16; i++) {
            firewall.packet(17 * i, 17 * (15 - i), Sample.UDP, 0);
            check.due("connDirection of a flow to itself", firewall.connDirection(17 * i, 17 * (15 - i), 1), 0);
        }
    }

    private static void staysWhileTheEntryStands(Check check) {
        for (int state = 1; state <= 9; state++) {
            int proto = Sample.protoOfState(state);
            StatefulFirewall firewall = Sample.acceptAll();
            check.due("connDirection of none", firewall.connDirection(Sample.ADDRS, Sample.PORTS, proto), NO_MATCH);
            Sample.leadAny(firewall, state);
            View before = View.of(firewall);
            check.due("connDirection", firewall.connDirection(Sample.ADDRS, Sample.PORTS, proto), 0);
            int back = firewall.connDirection(Sample.REPLY_ADDRS, Sample.REPLY_PORTS, proto);
            check.due("connDirection back", back, 1);
            check.unchanged("connDirection", firewall, before);
            firewall.tick(100);
            check.due("connDirection later", firewall.connDirection(Sample.ADDRS, Sample.PORTS, proto), NO_MATCH);
        }
    }

    private static void refusesInvalidHeaders(Check check) {
        StatefulFirewall firewall = Sample.busy();
        View before = View.of(firewall);
        for (int wrong : Sample.outside(255)) {
            check.due("connDirection(" + wrong + ", 0, 0)", firewall.connDirection(wrong, 0, 0), BAD);
            check.due("connDirection(0, " + wrong + ", 0)", firewall.connDirection(0, wrong, 0), BAD);
        }
        for (int wrong : Sample.outside(1)) {
            check.due("connDirection(0, 0, " + wrong + ")", firewall.connDirection(0, 0, wrong), BAD);
        }
        check.unchanged("a wrong connDirection", firewall, before);
    }
}
