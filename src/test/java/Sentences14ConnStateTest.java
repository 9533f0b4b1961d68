/** Every sentence of promise 14. */
public final class Sentences14ConnStateTest {
    private static final int NONE = StatefulFirewall.NONE;

    public static void main(String[] args) {
        Check check = new Check();
        refusesInvalidHeaders(check);
        noneWithoutAnEntry(check);
        noneOnceTheEntryHasGone(check);
        asksOnly(check);
        check.end();
    }

    private static void refusesInvalidHeaders(Check check) {
        check.sentence("connState(addrs, ports, proto) answers BAD for an invalid header.");
        Headers.refusesInvalid(check, HeaderCall.CONN_STATE);
    }

    private static void noneWithoutAnEntry(Check check) {
        check.sentence("Otherwise it answers NONE if lookup finds no entry, and else the found entry's state.");
        for (int state = 1; state <= 9; state++) {
            StatefulFirewall firewall = Sample.acceptAll();
            Flow flow = new Flow(15);
            int proto = Sample.protoOfState(state);
            check.due("connState before", flow.state(firewall, proto), NONE);
            flow.lead(firewall, state);
            check.due("connState", flow.state(firewall, proto), state);
            check.due("connState back", firewall.connState(flow.addrs(1), flow.ports(1), proto), state);
            check.due("connState by the other protocol", flow.state(firewall, 1 - proto), NONE);
            check.due("connState of a flow beside it", new Flow(14).state(firewall, proto), NONE);
            check.due("connState with addresses swapped alone",
                firewall.connState(flow.addrs(1), flow.ports(0), proto), NONE);
            check.due("connState with ports swapped alone",
                firewall.connState(flow.addrs(0), flow.ports(1), proto), NONE);
        }
    }

    private static void noneOnceTheEntryHasGone(Check check) {
        check.sentence("Otherwise it answers NONE if lookup finds no entry");
        for (int state = 1; state <= 9; state++) {
            StatefulFirewall firewall = Sample.acceptAll();
            Flow flow = new Flow(0);
            int proto = Sample.protoOfState(state);
            flow.lead(firewall, state);
            firewall.tick(Sample.timeout(state) - 1);
            check.due("connState at its last moment", flow.state(firewall, proto), state);
            firewall.tick(1);
            check.due("connState once expired", flow.state(firewall, proto), NONE);
            if (proto == Sample.TCP) {
                flow.lead(firewall, state);
                flow.tcp(firewall, 0, Sample.RST, Sample.nextOrigin(state, 9));
                check.due("connState once reset", flow.state(firewall, proto), NONE);
                check.due("connState back once reset", firewall.connState(flow.addrs(1), flow.ports(1), proto), NONE);
            }
        }
    }

    private static void asksOnly(Check check) {
        check.sentence("The call changes nothing.");
        Headers.asksOnly(check, HeaderCall.CONN_STATE);
    }
}
