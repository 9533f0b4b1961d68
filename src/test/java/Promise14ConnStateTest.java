/** Promise 14: connState. */
public final class Promise14ConnStateTest {
    private static final int BAD = StatefulFirewall.BAD;

    public static void main(String[] args) {
        Check check = new Check();
        everyStateFromBothSides(check);
        noneForAllOtherHeaders(check);
        refusesInvalidHeaders(check);
        check.end();
    }

    private static void everyStateFromBothSides(Check check) {
        for (int state = 1; state <= 9; state++) {
            int proto = Sample.protoOfState(state);
            StatefulFirewall firewall = Sample.acceptAll();
            Sample.leadAny(firewall, state);
            View before = View.of(firewall);
            check.due("connState of " + state, firewall.connState(Sample.ADDRS, Sample.PORTS, proto), state);
            int back = firewall.connState(Sample.REPLY_ADDRS, Sample.REPLY_PORTS, proto);
            check.due("connState of " + state + " back", back, state);
            int other = firewall.connState(Sample.ADDRS, Sample.PORTS, 1 - proto);
            check.due("connState by the other protocol", other, StatefulFirewall.NONE);
            check.unchanged("connState", firewall, before);
        }
    }

    private static void noneForAllOtherHeaders(Check check) {
        StatefulFirewall empty = Sample.acceptAll();
        StatefulFirewall firewall = Sample.acceptAll();
        Sample.lead(firewall, StatefulFirewall.ESTABLISHED, 9, 249);
        int found = 0;
        for (int header = 0; header < Sample.HEADERS; header++) {
            int addrs = Sample.addrsOf(header);
            int ports = Sample.portsOf(header);
            int proto = Sample.protoOf(header);
            check.due("connState of an empty table", empty.connState(addrs, ports, proto), StatefulFirewall.NONE);
            found += firewall.connState(addrs, ports, proto) == StatefulFirewall.NONE ? 0 : 1;
        }
        check.due("headers that find the entry", found, 2);
    }

    private static void refusesInvalidHeaders(Check check) {
        StatefulFirewall firewall = Sample.busy();
        View before = View.of(firewall);
        for (int wrong : Sample.outside(255)) {
            check.due("connState(" + wrong + ", 0, 0)", firewall.connState(wrong, 0, 0), BAD);
            check.due("connState(0, " + wrong + ", 0)", firewall.connState(0, wrong, 0), BAD);
        }
        for (int wrong : Sample.outside(1)) {
            check.due("connState(0, 0, " + wrong + ")", firewall.connState(0, 0, wrong), BAD);
        }
        check.due("connState of ANY", firewall.connState(Sample.ADDRS, Sample.PORTS, StatefulFirewall.ANY), BAD);
        check.unchanged("a wrong connState", firewall, before);
    }
}
