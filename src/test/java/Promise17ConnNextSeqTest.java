/** Promise 17: connNextSeq. */
public final class Promise17ConnNextSeqTest {
    private static final int BAD = StatefulFirewall.BAD;
    private static final int NO_MATCH = StatefulFirewall.NO_MATCH;

    public static void main(String[] args) {
        Check check = new Check();
        everyTcpState(check);
        everyNumber(check);
        unsetAfterASlotIsUsedAgain(check);
        udpHasNone(check);
        refusesInvalidHeaders(check);
        check.end();
    }

    private static int way(StatefulFirewall firewall, int proto) {
        return firewall.connNextSeq(Sample.ADDRS, Sample.PORTS, proto);
    }

    private static int back(StatefulFirewall firewall, int proto) {
        return firewall.connNextSeq(Sample.REPLY_ADDRS, Sample.REPLY_PORTS, proto);
    }

    private static void everyTcpState(Check check) {
        for (int state = 1; state <= 7; state++) {
            StatefulFirewall firewall = Sample.acceptAll();
            check.due("connNextSeq of none", way(firewall, Sample.TCP), NO_MATCH);
            Sample.lead(firewall, state, 9, 249);
            View before = View.of(firewall);
            check.due("connNextSeq in " + state, way(firewall, Sample.TCP), Sample.nextOrigin(state, 9));
            check.due("connNextSeq back in " + state, back(firewall, Sample.TCP), Sample.nextReply(state, 249));
            check.due("connNextSeq by UDP", way(firewall, Sample.UDP), NO_MATCH);
            check.unchanged("connNextSeq", firewall, before);
        }
    }

    private static void everyNumber(Check check) {
        for (int seq = 0; seq < 256; seq++) {
            StatefulFirewall firewall = Sample.acceptAll();
            Sample.lead(firewall, StatefulFirewall.SYN_RECV, seq, 255 - seq);
            check.due("connNextSeq after SYN " + seq, way(firewall, Sample.TCP), (seq + 1) % 256);
            check.due("connNextSeq after SYN+ACK " + (255 - seq), back(firewall, Sample.TCP), (256 - seq) % 256);
            // The far end of the window moves it on, and a packet beyond moves nothing.
            Sample.send(firewall, 0, Sample.ACK, seq + 1 + 31);
            check.due("connNextSeq after a leap", way(firewall, Sample.TCP), (seq + 33) % 256);
            Sample.send(firewall, 0, Sample.ACK, seq + 33 + 32);
            check.due("connNextSeq after a leap too far", way(firewall, Sample.TCP), (seq + 33) % 256);
            check.due("connNextSeq of the other side", back(firewall, Sample.TCP), (256 - seq) % 256);
        }
    }

    private static void unsetAfterASlotIsUsedAgain(Check check) {
        StatefulFirewall firewall = Sample.acceptAll();
        Sample.lead(firewall, StatefulFirewall.ESTABLISHED, 9, 249);
        firewall.tick(40);
        check.due("connNextSeq of an expired entry", way(firewall, Sample.TCP), NO_MATCH);
        firewall.packet(Sample.ADDRS, Sample.PORTS, Sample.UDP, 77);
        check.due("connNextSeq of UDP in its place", way(firewall, Sample.UDP), NO_MATCH);
        check.due("connNextSeq back of UDP in its place", back(firewall, Sample.UDP), NO_MATCH);
        firewall.tick(10);
        Sample.send(firewall, 0, Sample.SYN, 255);
        check.due("connNextSeq of a SYN in its place", way(firewall, Sample.TCP), 0);
        check.due("connNextSeq back of a SYN in its place", back(firewall, Sample.TCP), NO_MATCH);
    }

    private static void udpHasNone(Check check) {
        for (int state = 8; state <= 9; state++) {
            StatefulFirewall firewall = Sample.acceptAll();
            Sample.leadAny(firewall, state);
            check.due("connNextSeq of UDP", way(firewall, Sample.UDP), NO_MATCH);
            check.due("connNextSeq back of UDP", back(firewall, Sample.UDP), NO_MATCH);
        }
    }

    private static void refusesInvalidHeaders(Check check) {
        StatefulFirewall firewall = Sample.busy();
        View before = View.of(firewall);
        for (int wrong : Sample.outside(255)) {
            check.due("connNextSeq(" + wrong + ", 0, 0)", firewall.connNextSeq(wrong, 0, 0), BAD);
            check.due("connNextSeq(0, " + wrong + ", 0)", firewall.connNextSeq(0, wrong, 0), BAD);
        }
        for (int wrong : Sample.outside(1)) {
            check.due("connNextSeq(0, 0, " + wrong + ")", firewall.connNextSeq(0, 0, wrong), BAD);
        }
        check.unchanged("a wrong connNextSeq", firewall, before);
    }
}
