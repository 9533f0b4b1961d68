/** Every sentence of promise 17. */
public final class Sentences17ConnNextSeqTest {
    private static final int NO_MATCH = StatefulFirewall.NO_MATCH;
    private static final Flow FLOW = new Flow(15);

    public static void main(String[] args) {
        Check check = new Check();
        refusesInvalidHeaders(check);
        noMatchInThreeCasesAlone(check);
        noMatchWithoutAnEntry(check);
        noMatchForUdp(check);
        noMatchWhileUnset(check);
        everyNumberIsAnswered(check);
        placeUsedAgainIsUnset(check);
        asksOnly(check);
        check.end();
    }

    private static void refusesInvalidHeaders(Check check) {
        check.sentence("connNextSeq(addrs, ports, proto) answers BAD for an invalid header.");
        Headers.refusesInvalid(check, HeaderCall.CONN_NEXT_SEQ);
    }

    private static void noMatchInThreeCasesAlone(Check check) {
        check.sentence("Otherwise it answers NO_MATCH in three cases");
        for (int state = 1; state <= 9; state++) {
            StatefulFirewall firewall = Sample.acceptAll();
            FLOW.lead(firewall, state);
            int answered = 0;
            for (int header = 0; header < Sample.HEADERS; header++) {
                int addrs = Sample.addrsOf(header);
                int ports = Sample.portsOf(header);
                answered += firewall.connNextSeq(addrs, ports, Sample.protoOf(header)) == NO_MATCH ? 0 : 1;
            }
            int sides = state == StatefulFirewall.SYN_SENT ? 1 : 2;
            int want = Sample.protoOfState(state) == Sample.UDP ? 0 : sides;
            check.due("headers with a next number in state " + state, answered, want);
        }
    }

    private static void noMatchWithoutAnEntry(Check check) {
        check.sentence("lookup finds no entry");
        for (int state = 1; state <= 7; state++) {
            StatefulFirewall firewall = Sample.acceptAll();
            check.due("connNextSeq before", FLOW.nextSeq(firewall, 0), NO_MATCH);
            FLOW.lead(firewall, state);
            check.due("connNextSeq", FLOW.nextSeq(firewall, 0), Sample.nextOrigin(state, 9));
            check.due("connNextSeq of a flow beside it", new Flow(14).nextSeq(firewall, 0), NO_MATCH);
            check.due("connNextSeq by UDP", firewall.connNextSeq(FLOW.addrs(0), FLOW.ports(0), 1), NO_MATCH);
            firewall.tick(Sample.timeout(state));
            check.due("connNextSeq once expired", FLOW.nextSeq(firewall, 0), NO_MATCH);
            check.due("connNextSeq back once expired", FLOW.nextSeq(firewall, 1), NO_MATCH);
        }
    }

    private static void noMatchForUdp(Check check) {
        check.sentence("the found entry is UDP");
        for (int seq = 0; seq < 256; seq++) {
            StatefulFirewall firewall = Sample.acceptAll();
            for (int side = 0; side < 2; side++) {
                firewall.packet(FLOW.addrs(side), FLOW.ports(side), Sample.UDP, seq);
                for (int asked = 0; asked < 2; asked++) {
                    int got = firewall.connNextSeq(FLOW.addrs(asked), FLOW.ports(asked), Sample.UDP);
                    check.due("connNextSeq of UDP after " + seq, got, NO_MATCH);
                }
            }
        }
    }

    private static void noMatchWhileUnset(Check check) {
        check.sentence("nxt[d] is UNSET, as for d = 1 while the state is SYN_SENT");
        for (int seq = 0; seq < 256; seq++) {
            StatefulFirewall firewall = Sample.acceptAll();
            FLOW.tcp(firewall, 0, Sample.SYN, seq);
            check.due("connNextSeq of the origin", FLOW.nextSeq(firewall, 0), seq + 1 & 255);
            check.due("connNextSeq of the reply", FLOW.nextSeq(firewall, 1), NO_MATCH);
            // What is invalid sets nothing.
            FLOW.tcp(firewall, 1, Sample.ACK, seq);
            FLOW.tcp(firewall, 1, Sample.SYN, seq);
            check.due("connNextSeq of the reply still", FLOW.nextSeq(firewall, 1), NO_MATCH);
            FLOW.tcp(firewall, 1, Sample.SYN + Sample.ACK, seq);
            check.due("connNextSeq of the reply at last", FLOW.nextSeq(firewall, 1), seq + 1 & 255);
        }
    }

    private static void everyNumberIsAnswered(Check check) {
        check.sentence("In every other case it answers nxt[d] for the found direction d, a value in 0..255.");
        for (int seq = 0; seq < 256; seq++) {
            for (int state = StatefulFirewall.SYN_RECV; state <= StatefulFirewall.TIME_WAIT; state++) {
                StatefulFirewall firewall = Sample.acceptAll();
                FLOW.lead(firewall, state, seq, seq + 128);
                check.due("connNextSeq in " + state, FLOW.nextSeq(firewall, 0), Sample.nextOrigin(state, seq));
                int reply = Sample.nextReply(state, seq + 128);
                check.due("connNextSeq back in " + state, FLOW.nextSeq(firewall, 1), reply);
            }
        }
    }

    private static void placeUsedAgainIsUnset(Check check) {
        check.sentence("nxt[d] is UNSET, as for d = 1 while the state is SYN_SENT");
        StatefulFirewall firewall = new StatefulFirewall(4, 4, StatefulFirewall.ACCEPT);
        for (int round = 0; round < 3; round++) {
            for (int source = 0; source < 4; source++) {
                new Flow(source).lead(firewall, StatefulFirewall.ESTABLISHED);
            }
            for (int source = 0; source < 4; source++) {
                new Flow(source).tcp(firewall, 0, Sample.RST, 11);
                new Flow(source).tcp(firewall, 0, Sample.SYN, 255);
                check.due("connNextSeq of a SYN in its place", new Flow(source).nextSeq(firewall, 0), 0);
                check.due("connNextSeq back", new Flow(source).nextSeq(firewall, 1), NO_MATCH);
            }
            check.due("tick(6)", firewall.tick(6), 4);
        }
    }

    private static void asksOnly(Check check) {
        check.sentence("The call changes nothing.");
        Headers.asksOnly(check, HeaderCall.CONN_NEXT_SEQ);
    }
}
