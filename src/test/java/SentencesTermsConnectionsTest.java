/** Every sentence of "Terms" on the table, the sequence numbers, the clock and the timeouts. */
public final class SentencesTermsConnectionsTest {
    private static final int NO_MATCH = StatefulFirewall.NO_MATCH;
    private static final int V_PASS = StatefulFirewall.V_PASS;
    private static final int V_INVALID = StatefulFirewall.V_INVALID;
    private static final int SYN_ACK = StatefulFirewall.SYN + StatefulFirewall.ACK;

    public static void main(String[] args) {
        Check check = new Check();
        tableHoldsUpToTheCapacity(check);
        nextNumbersAreWithin255(check);
        replyIsUnsetWhileSynSent(check);
        originIsSoughtFirst(check);
        replyIsSoughtNext(check);
        otherwiseNoneIsFound(check);
        atMostOneEntryIsFound(check);
        numbersAreModulo256(check);
        windowHasBothEnds(check);
        retransmitIsTheNumberBefore(check);
        clockStartsAtZero(check);
        statesTimeOut(check);
        check.end();
    }

    private static void tableHoldsUpToTheCapacity(Check check) {
        check.sentence("The table holds 0..connCap entries.");
        for (int cap = 4; cap <= 16; cap++) {
            StatefulFirewall firewall = new StatefulFirewall(4, cap, StatefulFirewall.ACCEPT);
            check.due("connCount() of none", firewall.connCount(), 0);
            for (int source = 0; source < cap; source++) {
                check.due("entry " + source + " of " + cap, new Flow(source).udp(firewall, 0), StatefulFirewall.V_NEW);
                check.due("connCount()", firewall.connCount(), source + 1);
            }
            check.due("an entry beyond " + cap, firewall.packet(1, 2, Sample.UDP, 0), StatefulFirewall.V_FULL);
            check.due("connCount() of all", firewall.connCount(), cap);
            for (int source = 0; source < cap; source++) {
                int state = new Flow(source).state(firewall, Sample.UDP);
                check.due("state of entry " + source, state, StatefulFirewall.UDP_NEW);
            }
        }
    }

    private static void nextNumbersAreWithin255(Check check) {
        check.sentence("for TCP only, nxt[0] (origin direction) and nxt[1] (reply direction), each 0..255");
        Flow flow = new Flow(3);
        int[] sent = {0, 254, 255};
        int[] next = {1, 255, 0};
        for (int i = 0; i < 3; i++) {
            StatefulFirewall firewall = Sample.acceptAll();
            flow.tcp(firewall, 0, Sample.SYN, sent[i]);
            flow.tcp(firewall, 1, SYN_ACK, sent[2 - i]);
            check.due("next of the origin after " + sent[i], flow.nextSeq(firewall, 0), next[i]);
            check.due("next of the reply after " + sent[2 - i], flow.nextSeq(firewall, 1), next[2 - i]);
            flow.udp(firewall, 0);
            flow.udp(firewall, 1);
            check.due("next of UDP", firewall.connNextSeq(flow.addrs(0), flow.ports(0), Sample.UDP), NO_MATCH);
            check.due("next of UDP back", firewall.connNextSeq(flow.addrs(1), flow.ports(1), Sample.UDP), NO_MATCH);
        }
    }

    private static void replyIsUnsetWhileSynSent(Check check) {
        check.sentence("nxt[1] is UNSET while the state is SYN_SENT.");
        Flow flow = new Flow(3);
        for (int seq = 0; seq < 256; seq++) {
            StatefulFirewall firewall = Sample.acceptAll();
            flow.tcp(firewall, 0, Sample.SYN, seq);
            check.due("next of the reply in SYN_SENT", flow.nextSeq(firewall, 1), NO_MATCH);
            flow.tcp(firewall, 0, Sample.SYN, seq);
            check.due("next of the reply after SYN twice", flow.nextSeq(firewall, 1), NO_MATCH);
            flow.tcp(firewall, 1, SYN_ACK, seq);
            check.due("next of the reply in SYN_RECV", flow.nextSeq(firewall, 1), (seq + 1) % 256);
        }
    }

    private static void originIsSoughtFirst(Check check) {
        check.sentence("Such an entry is found with direction d = 0.");
        for (int proto = 0; proto < 2; proto++) {
            // An end that talks to itself is its own reply, and the origin is sought first.
            for (int end = 0; end < 256; end += 17) {
                StatefulFirewall firewall = Sample.acceptAll();
                firewall.packet(end, 255 - end, opening(proto), 7);
                check.due("direction of an end to itself", firewall.connDirection(end, 255 - end, proto), 0);
            }
            StatefulFirewall firewall = Sample.acceptAll();
            firewall.packet(0 + 16 * 15, 15 + 16 * 0, opening(proto), 7);
            check.due("direction from 0:15 to 15:0", firewall.connDirection(0 + 16 * 15, 15 + 16 * 0, proto), 0);
        }
    }

    private static void replyIsSoughtNext(Check check) {
        check.sentence("Such an entry is found with d = 1.");
        for (int proto = 0; proto < 2; proto++) {
            StatefulFirewall firewall = Sample.acceptAll();
            firewall.packet(0 + 16 * 15, 15 + 16 * 0, opening(proto), 7);
            check.due("direction from 15:0 to 0:15", firewall.connDirection(15 + 16 * 0, 0 + 16 * 15, proto), 1);
            // One part alone tells origin and reply apart.
            firewall.packet(5 + 16 * 5, 3 + 16 * 4, opening(proto), 7);
            check.due("direction by the ports alone", firewall.connDirection(5 + 16 * 5, 4 + 16 * 3, proto), 1);
            firewall.packet(5 + 16 * 6, 3 + 16 * 3, opening(proto), 7);
            check.due("direction by the addresses alone", firewall.connDirection(6 + 16 * 5, 3 + 16 * 3, proto), 1);
        }
    }

    private static int opening(int proto) {
        return proto == Sample.UDP ? Sample.UDP : Sample.tcp(Sample.SYN);
    }

    private static void otherwiseNoneIsFound(Check check) {
        check.sentence("Otherwise lookup finds none.");
        for (int proto = 0; proto < 2; proto++) {
            StatefulFirewall firewall = Sample.acceptAll();
            firewall.packet(Sample.ADDRS, Sample.PORTS, opening(proto), 7);
            int found = 0;
            for (int header = 0; header < Sample.HEADERS; header++) {
                int direction = firewall.connDirection(Sample.addrsOf(header), Sample.portsOf(header),
                    Sample.protoOf(header));
                found += direction == NO_MATCH ? 0 : 1;
            }
            check.due("headers that find the one entry", found, 2);
            check.due("direction by the other protocol",
                firewall.connDirection(Sample.ADDRS, Sample.PORTS, 1 - proto), NO_MATCH);
            check.due("direction with addresses swapped alone",
                firewall.connDirection(Sample.REPLY_ADDRS, Sample.PORTS, proto), NO_MATCH);
            check.due("direction with ports swapped alone",
                firewall.connDirection(Sample.ADDRS, Sample.REPLY_PORTS, proto), NO_MATCH);
        }
    }

    private static void atMostOneEntryIsFound(Check check) {
        check.sentence("An entry is created only when the lookup of its creating header finds none, "
            + "so at most one entry is found.");
        Flow flow = new Flow(3);
        StatefulFirewall firewall = Sample.acceptAll();
        flow.udp(firewall, 0);
        flow.udp(firewall, 0);
        flow.udp(firewall, 1);
        check.due("connCount() after UDP both ways", firewall.connCount(), 1);
        flow.tcp(firewall, 0, Sample.SYN, 7);
        flow.tcp(firewall, 0, Sample.SYN, 7);
        flow.tcp(firewall, 0, Sample.SYN, 8);
        check.due("SYN against an entry", flow.tcp(firewall, 1, Sample.SYN, 7), V_INVALID);
        check.due("connCount() after SYN both ways", firewall.connCount(), 2);
        flow.tcp(firewall, 0, Sample.RST, 8);
        check.due("SYN the other way without an entry", flow.tcp(firewall, 1, Sample.SYN, 7), StatefulFirewall.V_NEW);
        check.due("direction of what is now the reply", firewall.connDirection(flow.addrs(0), flow.ports(0), 0), 1);
    }

    private static void numbersAreModulo256(Check check) {
        check.sentence("Sequence numbers are modulo 256.");
        Flow flow = new Flow(3);
        StatefulFirewall firewall = Sample.acceptAll();
        flow.lead(firewall, StatefulFirewall.ESTABLISHED, 252, 253);
        for (int seq = 254; seq < 254 + 600; seq++) {
            check.due("ACK " + (seq & 255), flow.tcp(firewall, 0, Sample.ACK, seq), V_PASS);
            check.due("next after " + (seq & 255), flow.nextSeq(firewall, 0), seq + 1 & 255);
            check.due("ACK back " + (seq & 255), flow.tcp(firewall, 1, Sample.ACK, seq), V_PASS);
            check.due("next back after " + (seq & 255), flow.nextSeq(firewall, 1), seq + 1 & 255);
        }
    }

    private static void windowHasBothEnds(Check check) {
        check.sentence("seq is IN WINDOW for d iff ((seq - nxt[d]) & 255) < WINDOW.");
        for (int next = 0; next < 256; next++) {
            for (int direction = 0; direction < 2; direction++) {
                acknowledges(check, direction, next, 0, V_PASS);
                acknowledges(check, direction, next, 31, V_PASS);
                acknowledges(check, direction, next, 32, V_INVALID);
                acknowledges(check, direction, next, 33, V_INVALID);
                acknowledges(check, direction, next, 128, V_INVALID);
                acknowledges(check, direction, next, 255, V_INVALID);
            }
        }
    }

    /** An ACK that lies so far ahead of the number that an established flow awaits. */
    private static void acknowledges(Check check, int direction, int next, int ahead, int want) {
        Flow flow = new Flow(3);
        StatefulFirewall firewall = Sample.acceptAll();
        // The other direction awaits a number on the far side, so that the two are told apart.
        int origin = direction == 0 ? next - 2 : next + 126;
        int reply = direction == 1 ? next - 1 : next + 127;
        flow.lead(firewall, StatefulFirewall.ESTABLISHED, origin, reply);
        String call = "ACK " + ahead + " ahead of " + next + " in direction " + direction;
        check.due("the number awaited", flow.nextSeq(firewall, direction), next);
        check.due(call, flow.tcp(firewall, direction, Sample.ACK, next + ahead), want);
        int after = want == V_PASS ? next + ahead + 1 & 255 : next;
        check.due("next after " + call, flow.nextSeq(firewall, direction), after);
        check.due("next of the other after " + call, flow.nextSeq(firewall, 1 - direction), next + 128 & 255);
    }

    private static void retransmitIsTheNumberBefore(Check check) {
        check.sentence("seq is a RETRANSMIT for d iff seq == ((nxt[d] + 255) & 255).");
        Flow flow = new Flow(3);
        for (int next = 0; next < 256; next++) {
            for (int seq = 0; seq < 256; seq++) {
                int want = seq == (next + 255) % 256 ? V_PASS : V_INVALID;
                StatefulFirewall sent = Sample.acceptAll();
                flow.lead(sent, StatefulFirewall.SYN_SENT, next - 1, 0);
                check.due("SYN " + seq + " before " + next, flow.tcp(sent, 0, Sample.SYN, seq), want);
                check.due("next after it", flow.nextSeq(sent, 0), next);
                StatefulFirewall received = Sample.acceptAll();
                flow.lead(received, StatefulFirewall.SYN_RECV, next + 99, next - 1);
                check.due("SYN+ACK " + seq + " before " + next, flow.tcp(received, 1, SYN_ACK, seq), want);
                check.due("next back after it", flow.nextSeq(received, 1), next);
            }
        }
    }

    private static void clockStartsAtZero(Check check) {
        check.sentence("now starts at 0 and changes only by tick.");
        StatefulFirewall firewall = Sample.acceptAll();
        check.due("now() of a new firewall", firewall.now(), 0);
        Sample.lead(firewall, StatefulFirewall.TIME_WAIT, 9, 249);
        firewall.addRule(0, 0, 240, 6);
        firewall.removeRule(0);
        check.due("now() without a tick", firewall.now(), 0);
        firewall.tick(1);
        check.due("now() after tick(1)", firewall.now(), 1);
    }

    private static void statesTimeOut(Check check) {
        check.sentence("timeout(SYN_SENT) = T_SYN_SENT and timeout(SYN_RECV) = T_SYN_RECV.");
        timesOut(check, StatefulFirewall.SYN_SENT, StatefulFirewall.T_SYN_SENT);
        timesOut(check, StatefulFirewall.SYN_RECV, StatefulFirewall.T_SYN_RECV);
        check.sentence("timeout(ESTABLISHED) = T_ESTABLISHED.");
        timesOut(check, StatefulFirewall.ESTABLISHED, StatefulFirewall.T_ESTABLISHED);
        check.sentence("timeout(FIN_ORIG) = timeout(FIN_REPLY) = T_FIN.");
        timesOut(check, StatefulFirewall.FIN_ORIG, StatefulFirewall.T_FIN);
        timesOut(check, StatefulFirewall.FIN_REPLY, StatefulFirewall.T_FIN);
        check.sentence("timeout(CLOSING) = T_CLOSING and timeout(TIME_WAIT) = T_TIME_WAIT.");
        timesOut(check, StatefulFirewall.CLOSING, StatefulFirewall.T_CLOSING);
        timesOut(check, StatefulFirewall.TIME_WAIT, StatefulFirewall.T_TIME_WAIT);
        check.sentence("timeout(UDP_NEW) = T_UDP_NEW and timeout(UDP_REPLIED) = T_UDP_REPLIED.");
        timesOut(check, StatefulFirewall.UDP_NEW, StatefulFirewall.T_UDP_NEW);
        timesOut(check, StatefulFirewall.UDP_REPLIED, StatefulFirewall.T_UDP_REPLIED);
    }

    private static void timesOut(Check check, int state, int timeout) {
        Flow flow = new Flow(3);
        int proto = Sample.protoOfState(state);
        StatefulFirewall firewall = Sample.acceptAll();
        flow.lead(firewall, state);
        check.due("the document's timeout of " + state, timeout, Sample.timeout(state));
        check.due("time left of state " + state, flow.timeLeft(firewall, proto), timeout);
        check.due("tick to one before its end", firewall.tick(timeout - 1), 0);
        check.due("state " + state + " one before its end", flow.state(firewall, proto), state);
        check.due("tick to its end", firewall.tick(1), 1);
        check.due("state " + state + " at its end", flow.state(firewall, proto), StatefulFirewall.NONE);
    }
}
