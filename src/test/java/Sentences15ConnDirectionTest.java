/** Every sentence of promise 15. */
public final class Sentences15ConnDirectionTest {
    private static final int NO_MATCH = StatefulFirewall.NO_MATCH;

    public static void main(String[] args) {
        Check check = new Check();
        refusesInvalidHeaders(check);
        noMatchWithoutAnEntry(check);
        zeroOrOneWithAnEntry(check);
        asksOnly(check);
        check.end();
    }

    private static void refusesInvalidHeaders(Check check) {
        check.sentence("connDirection(addrs, ports, proto) answers BAD for an invalid header.");
        Headers.refusesInvalid(check, HeaderCall.CONN_DIRECTION);
    }

    private static int direction(StatefulFirewall firewall, Flow flow, int side, int proto) {
        return firewall.connDirection(flow.addrs(side), flow.ports(side), proto);
    }

    private static void noMatchWithoutAnEntry(Check check) {
        check.sentence("Otherwise it answers NO_MATCH if lookup finds none");
        Flow flow = new Flow(15);
        for (int state = 1; state <= 9; state++) {
            StatefulFirewall firewall = Sample.acceptAll();
            int proto = Sample.protoOfState(state);
            check.due("connDirection before", direction(firewall, flow, 0, proto), NO_MATCH);
            flow.lead(firewall, state);
            check.due("connDirection by the other protocol", direction(firewall, flow, 0, 1 - proto), NO_MATCH);
            check.due("connDirection of a flow beside it", direction(firewall, new Flow(14), 0, proto), NO_MATCH);
            firewall.tick(Sample.timeout(state) - 1);
            check.due("connDirection at its last moment", direction(firewall, flow, 0, proto), 0);
            check.due("connDirection back at its last moment", direction(firewall, flow, 1, proto), 1);
            firewall.tick(1);
            check.due("connDirection once expired", direction(firewall, flow, 0, proto), NO_MATCH);
            check.due("connDirection back once expired", direction(firewall, flow, 1, proto), NO_MATCH);
        }
    }

    private static void zeroOrOneWithAnEntry(Check check) {
        check.sentence("and else the direction d (0 or 1) with which the entry was found");
        int[] ends = {0, 7, 15};
        for (int number = 0; number < 2 * 81; number++) {
            int src = ends[number % 3];
            int dst = ends[number / 3 % 3];
            int sport = ends[number / 9 % 3];
            int dport = ends[number / 27 % 3];
            int proto = number / 81;
            StatefulFirewall firewall = Sample.acceptAll();
            firewall.packet(src + 16 * dst, sport + 16 * dport, proto == 0 ? Sample.tcp(Sample.SYN) : Sample.UDP, 0);
            boolean self = src == dst && sport == dport;
            String flow = src + ":" + sport + " to " + dst + ":" + dport;
            check.due(flow, firewall.connDirection(src + 16 * dst, sport + 16 * dport, proto), 0);
            check.due(flow + " back", firewall.connDirection(dst + 16 * src, dport + 16 * sport, proto), self ? 0 : 1);
        }
    }

    private static void asksOnly(Check check) {
        check.sentence("The call changes nothing.");
        Headers.asksOnly(check, HeaderCall.CONN_DIRECTION);
    }
}
