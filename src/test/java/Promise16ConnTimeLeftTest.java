/** Promise 16: connTimeLeft. */
public final class Promise16ConnTimeLeftTest {
    private static final int BAD = StatefulFirewall.BAD;
    private static final int NO_MATCH = StatefulFirewall.NO_MATCH;

    public static void main(String[] args) {
        Check check = new Check();
        countsDownInEveryState(check);
        refusesInvalidHeaders(check);
        check.end();
    }

    private static void countsDownInEveryState(Check check) {
        for (int state = 1; state <= 9; state++) {
            int proto = Sample.protoOfState(state);
            StatefulFirewall firewall = Sample.acceptAll();
            firewall.tick(17);
            check.due("connTimeLeft of none", firewall.connTimeLeft(Sample.ADDRS, Sample.PORTS, proto), NO_MATCH);
            Sample.leadAny(firewall, state);
            View before = View.of(firewall);
            for (int left = Sample.timeout(state); left > 0; left--) {
                String call = "connTimeLeft of state " + state;
                check.due(call, firewall.connTimeLeft(Sample.ADDRS, Sample.PORTS, proto), left);
                int back = firewall.connTimeLeft(Sample.REPLY_ADDRS, Sample.REPLY_PORTS, proto);
                check.due(call + " back", back, left);
                int other = firewall.connTimeLeft(Sample.ADDRS, Sample.PORTS, 1 - proto);
                check.due(call + " by the other protocol", other, NO_MATCH);
                if (left == Sample.timeout(state)) {
                    check.unchanged("connTimeLeft", firewall, before);
                }
                firewall.tick(1);
            }
            check.due("connTimeLeft later", firewall.connTimeLeft(Sample.ADDRS, Sample.PORTS, proto), NO_MATCH);
        }
    }

    private static void refusesInvalidHeaders(Check check) {
        StatefulFirewall firewall = Sample.busy();
        View before = View.of(firewall);
        for (int wrong : Sample.outside(255)) {
            check.due("connTimeLeft(" + wrong + ", 0, 0)", firewall.connTimeLeft(wrong, 0, 0), BAD);
            check.due("connTimeLeft(0, " + wrong + ", 0)", firewall.connTimeLeft(0, wrong, 0), BAD);
        }
        for (int wrong : Sample.outside(1)) {
            check.due("connTimeLeft(0, 0, " + wrong + ")", firewall.connTimeLeft(0, 0, wrong), BAD);
        }
        check.unchanged("a wrong connTimeLeft", firewall, before);
    }
}
