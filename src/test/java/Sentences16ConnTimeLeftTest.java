/** Every sentence of promise 16; every state over the wrap-around stands in Sentences11WrapAroundTest. */
public final class Sentences16ConnTimeLeftTest {
    private static final int NO_MATCH = StatefulFirewall.NO_MATCH;

    public static void main(String[] args) {
        Check check = new Check();
        refusesInvalidHeaders(check);
        noMatchWithoutAnEntry(check);
        expiryMinusNow(check);
        belowZeroOverTheEnd(check);
        asksOnly(check);
        check.end();
    }

    private static void refusesInvalidHeaders(Check check) {
        check.sentence("connTimeLeft(addrs, ports, proto) answers BAD for an invalid header.");
        Headers.refusesInvalid(check, HeaderCall.CONN_TIME_LEFT);
    }

    private static void noMatchWithoutAnEntry(Check check) {
        check.sentence("Otherwise it answers NO_MATCH if lookup finds none");
        Flow flow = new Flow(15);
        for (int state = 1; state <= 9; state++) {
            StatefulFirewall firewall = Sample.acceptAll();
            int proto = Sample.protoOfState(state);
            check.due("connTimeLeft before", flow.timeLeft(firewall, proto), NO_MATCH);
            flow.lead(firewall, state);
            check.due("connTimeLeft by the other protocol", flow.timeLeft(firewall, 1 - proto), NO_MATCH);
            check.due("connTimeLeft of a flow beside it", new Flow(14).timeLeft(firewall, proto), NO_MATCH);
            firewall.tick(Sample.timeout(state));
            check.due("connTimeLeft once expired", flow.timeLeft(firewall, proto), NO_MATCH);
        }
    }

    private static void expiryMinusNow(Check check) {
        check.sentence("and else expiry - now for the found entry");
        Flow flow = new Flow(0);
        for (int state = 1; state <= 9; state++) {
            int timeout = Sample.timeout(state);
            int proto = Sample.protoOfState(state);
            for (int n = 1; n < timeout; n++) {
                StatefulFirewall firewall = Sample.acceptAll();
                firewall.tick(100);
                flow.lead(firewall, state);
                check.due("connTimeLeft at once", flow.timeLeft(firewall, proto), timeout);
                firewall.tick(n);
                check.due("connTimeLeft after tick(" + n + ")", flow.timeLeft(firewall, proto), timeout - n);
                int back = firewall.connTimeLeft(flow.addrs(1), flow.ports(1), proto);
                check.due("connTimeLeft back after tick(" + n + ")", back, timeout - n);
            }
        }
    }

    private static void belowZeroOverTheEnd(Check check) {
        check.sentence("and else expiry - now for the found entry");
        // -1 and -2 are then times, not BAD and not NO_MATCH: the entry is found all the same.
        Flow flow = new Flow(0);
        StatefulFirewall firewall = Clock.at(Sample.MAX - 10);
        flow.lead(firewall, StatefulFirewall.UDP_NEW);
        firewall.tick(11);
        check.due("connTimeLeft", flow.timeLeft(firewall, Sample.UDP), -1);
        check.due("connState", flow.state(firewall, Sample.UDP), StatefulFirewall.UDP_NEW);
        firewall.tick(1);
        check.due("connTimeLeft", flow.timeLeft(firewall, Sample.UDP), -2);
        check.due("connState", flow.state(firewall, Sample.UDP), StatefulFirewall.UDP_NEW);
        check.due("connDirection", firewall.connDirection(flow.addrs(1), flow.ports(1), Sample.UDP), 1);
        firewall.tick(100);
        check.due("connTimeLeft", flow.timeLeft(firewall, Sample.UDP), -102);
    }

    private static void asksOnly(Check check) {
        check.sentence("The call changes nothing.");
        Headers.asksOnly(check, HeaderCall.CONN_TIME_LEFT);
    }
}
