/** Promise 10: packet, but for the TCP states, which Promise10TcpStatesTest goes through. */
public final class Promise10PacketTest {
    private static final int BAD = StatefulFirewall.BAD;
    private static final int V_DROP = StatefulFirewall.V_DROP;
    private static final int V_NEW = StatefulFirewall.V_NEW;
    private static final int V_PASS = StatefulFirewall.V_PASS;
    private static final int V_INVALID = StatefulFirewall.V_INVALID;
    private static final int V_FULL = StatefulFirewall.V_FULL;
    private static final int V_CLOSED = StatefulFirewall.V_CLOSED;

    public static void main(String[] args) {
        Check check = new Check();
        refusesWrongArguments(check);
        udpCarriesNoFlags(check);
        followsUdp(check);
        decidesUntracked(check);
        createsOnlyOnSyn(check);
        setsTheNewEntry(check);
        fullTable(check);
        rulesAreNotAskedForEntries(check);
        entriesAreApart(check);
        flowToItself(check);
        removalKeepsTheOthers(check);
        changesNeitherRulesNorClock(check);
        check.end();
    }

    private static void refusesWrongArguments(Check check) {
        StatefulFirewall firewall = Sample.busy();
        View before = View.of(firewall);
        for (int wrong : Sample.outside(255)) {
            check.due("packet(" + wrong + ", ..)", firewall.packet(wrong, Sample.PORTS, 4, 11), BAD);
            check.due("packet(., " + wrong + ", ..)", firewall.packet(Sample.ADDRS, wrong, 4, 11), BAD);
            check.due("packet(.., " + wrong + ")", firewall.packet(Sample.ADDRS, Sample.PORTS, 4, wrong), BAD);
            check.due("UDP packet(.., " + wrong + ")", firewall.packet(Sample.ADDRS, Sample.PORTS, 1, wrong), BAD);
        }
        for (int wrong : Sample.outside(31)) {
            check.due("packet(.., " + wrong + ", .)", firewall.packet(Sample.ADDRS, Sample.PORTS, wrong, 11), BAD);
        }
        check.unchanged("a wrong packet", firewall, before);
        StatefulFirewall edges = Sample.acceptAll();
        check.due("packet(0, 0, 2, 0)", edges.packet(0, 0, 2, 0), V_NEW);
        check.due("packet(255, 255, 2, 255)", edges.packet(255, 255, 2, 255), V_NEW);
        check.due("packet(255, 255, 30, 255)", edges.packet(255, 255, 30, 255), V_INVALID);
        check.due("packet(0, 0, 1, 0)", edges.packet(0, 0, 1, 0), V_NEW);
        check.due("packet(255, 255, 1, 255)", edges.packet(255, 255, 1, 255), V_NEW);
    }

    private static void udpCarriesNoFlags(Check check) {
        StatefulFirewall tracked = Sample.busy();
        View before = View.of(tracked);
        for (int flags = 1; flags < 16; flags++) {
            int protoFlags = Sample.UDP + 2 * flags;
            check.due("UDP with flags " + flags, tracked.packet(Sample.UDP_ADDRS, Sample.UDP_PORTS, protoFlags, 0), BAD);
            check.due("UDP with flags " + flags, Sample.dropAll().packet(1, 1, protoFlags, 0), BAD);
            check.due("UDP with flags " + flags, Sample.acceptAll().packet(1, 1, protoFlags, 0), BAD);
        }
        check.unchanged("UDP with flags", tracked, before);
    }

    private static void followsUdp(Check check) {
        int udp = Sample.UDP;
        StatefulFirewall firewall = Sample.acceptAll();
        check.due("UDP", firewall.packet(Sample.ADDRS, Sample.PORTS, udp, 0), V_NEW);
        firewall.tick(4);
        check.due("UDP again", firewall.packet(Sample.ADDRS, Sample.PORTS, udp, 200), V_PASS);
        check.due("state", firewall.connState(Sample.ADDRS, Sample.PORTS, udp), StatefulFirewall.UDP_NEW);
        check.due("time left", firewall.connTimeLeft(Sample.ADDRS, Sample.PORTS, udp), 10);
        firewall.tick(9);
        check.due("UDP reply", firewall.packet(Sample.REPLY_ADDRS, Sample.REPLY_PORTS, udp, 255), V_PASS);
        check.due("state", firewall.connState(Sample.ADDRS, Sample.PORTS, udp), StatefulFirewall.UDP_REPLIED);
        check.due("time left", firewall.connTimeLeft(Sample.ADDRS, Sample.PORTS, udp), 30);
        firewall.tick(29);
        check.due("UDP after the reply", firewall.packet(Sample.ADDRS, Sample.PORTS, udp, 3), V_PASS);
        check.due("state", firewall.connState(Sample.ADDRS, Sample.PORTS, udp), StatefulFirewall.UDP_REPLIED);
        check.due("time left", firewall.connTimeLeft(Sample.ADDRS, Sample.PORTS, udp), 30);
        firewall.tick(29);
        check.due("UDP reply again", firewall.packet(Sample.REPLY_ADDRS, Sample.REPLY_PORTS, udp, 3), V_PASS);
        check.due("state", firewall.connState(Sample.ADDRS, Sample.PORTS, udp), StatefulFirewall.UDP_REPLIED);
        check.due("time left", firewall.connTimeLeft(Sample.ADDRS, Sample.PORTS, udp), 30);
        check.due("direction stays", firewall.connDirection(Sample.ADDRS, Sample.PORTS, udp), 0);
        check.due("next stays unset", firewall.connNextSeq(Sample.ADDRS, Sample.PORTS, udp), -2);
        check.due("next stays unset", firewall.connNextSeq(Sample.REPLY_ADDRS, Sample.REPLY_PORTS, udp), -2);
        check.due("connCount()", firewall.connCount(), 1);
    }

    private static void decidesUntracked(Check check) {
        StatefulFirewall firewall = new StatefulFirewall(8, 16, StatefulFirewall.DROP);
        firewall.addRule(Sample.ALL, Sample.ALL, Sample.range(4, 6), Sample.ACCEPT_TCP);
        firewall.addRule(Sample.prefix(8, 1), Sample.ALL, Sample.ALL_PORTS, Sample.ACCEPT_UDP);
        View before = View.of(firewall);
        for (int flags = 0; flags < 16; flags++) {
            check.due("TCP to a closed port", firewall.packet(18, 4 + 16 * 7, Sample.tcp(flags), 0), V_DROP);
        }
        check.due("UDP from a closed source", firewall.packet(7 + 16 * 8, 5 + 16 * 5, Sample.UDP, 0), V_DROP);
        check.unchanged("dropped packets", firewall, before);
        check.due("TCP to an open port", firewall.packet(18, 0 + 16 * 6, Sample.tcp(Sample.SYN), 0), V_NEW);
        check.due("UDP from an open source", firewall.packet(8 + 16 * 7, 0, Sample.UDP, 0), V_NEW);
    }

    private static void createsOnlyOnSyn(Check check) {
        for (int flags = 0; flags < 16; flags++) {
            StatefulFirewall firewall = Sample.acceptAll();
            View before = View.of(firewall);
            boolean syn = flags == Sample.SYN;
            check.due("TCP with flags " + flags, Sample.send(firewall, 0, flags, 5), syn ? V_NEW : V_INVALID);
            check.due("connCount() after flags " + flags, firewall.connCount(), syn ? 1 : 0);
            if (!syn) {
                check.unchanged("TCP with flags " + flags, firewall, before);
            }
        }
    }

    private static void setsTheNewEntry(Check check) {
        for (int seq = 0; seq < 256; seq++) {
            StatefulFirewall firewall = Sample.acceptAll();
            firewall.tick(13);
            check.due("SYN " + seq, Sample.send(firewall, 0, Sample.SYN, seq), V_NEW);
            check.due("UDP " + seq, firewall.packet(Sample.ADDRS, Sample.PORTS, Sample.UDP, seq), V_NEW);
            check.due("state", firewall.connState(Sample.ADDRS, Sample.PORTS, Sample.TCP), StatefulFirewall.SYN_SENT);
            check.due("next", firewall.connNextSeq(Sample.ADDRS, Sample.PORTS, Sample.TCP), seq == 255 ? 0 : seq + 1);
            check.due("next back", firewall.connNextSeq(Sample.REPLY_ADDRS, Sample.REPLY_PORTS, Sample.TCP), -2);
            check.due("time left", firewall.connTimeLeft(Sample.ADDRS, Sample.PORTS, Sample.TCP), 6);
            check.due("state", firewall.connState(Sample.ADDRS, Sample.PORTS, Sample.UDP), StatefulFirewall.UDP_NEW);
            check.due("next", firewall.connNextSeq(Sample.ADDRS, Sample.PORTS, Sample.UDP), -2);
            check.due("time left", firewall.connTimeLeft(Sample.ADDRS, Sample.PORTS, Sample.UDP), 10);
            check.due("direction", firewall.connDirection(Sample.ADDRS, Sample.PORTS, Sample.UDP), 0);
            check.due("direction", firewall.connDirection(Sample.REPLY_ADDRS, Sample.REPLY_PORTS, Sample.UDP), 1);
        }
    }

    private static void fullTable(Check check) {
        StatefulFirewall firewall = new StatefulFirewall(4, 4, StatefulFirewall.ACCEPT);
        firewall.addRule(Sample.prefix(15, 4), Sample.ALL, Sample.ALL_PORTS, Sample.DROP_ANY);
        Sample.lead(firewall, StatefulFirewall.ESTABLISHED, 9, 249);
        for (int sport = 0; sport < 3; sport++) {
            check.due("UDP below the capacity", firewall.packet(16, sport, Sample.UDP, 0), V_NEW);
        }
        View before = View.of(firewall);
        check.due("UDP on a full table", firewall.packet(16, 9, Sample.UDP, 0), V_FULL);
        check.due("SYN on a full table", firewall.packet(16, 9, Sample.tcp(Sample.SYN), 0), V_FULL);
        check.due("ACK on a full table", firewall.packet(16, 9, Sample.tcp(Sample.ACK), 0), V_INVALID);
        check.due("RST on a full table", firewall.packet(16, 9, Sample.tcp(Sample.RST), 0), V_INVALID);
        check.due("dropped UDP on a full table", firewall.packet(15, 9, Sample.UDP, 0), V_DROP);
        check.due("dropped SYN on a full table", firewall.packet(15, 9, Sample.tcp(Sample.SYN), 0), V_DROP);
        check.unchanged("packets on a full table", firewall, before);
        check.due("tracked ACK on a full table", Sample.send(firewall, 0, Sample.ACK, 11), V_PASS);
        check.due("tracked UDP on a full table", firewall.packet(16, 1, Sample.UDP, 0), V_PASS);
        check.due("tracked RST on a full table", Sample.send(firewall, 1, Sample.RST, 250), V_CLOSED);
        check.due("connCount() after the RST", firewall.connCount(), 3);
        check.due("SYN after the RST", firewall.packet(16, 9, Sample.tcp(Sample.SYN), 0), V_NEW);
        check.due("SYN on a full table again", firewall.packet(16, 10, Sample.tcp(Sample.SYN), 0), V_FULL);
    }

    private static void rulesAreNotAskedForEntries(Check check) {
        StatefulFirewall firewall = Sample.dropAll();
        firewall.addRule(Sample.ALL, Sample.ALL, Sample.ALL_PORTS, Sample.ACCEPT_ANY);
        Sample.send(firewall, 0, Sample.SYN, 9);
        firewall.packet(Sample.UDP_ADDRS, Sample.UDP_PORTS, Sample.UDP, 0);
        firewall.removeRule(0);
        check.due("SYN+ACK without rules", Sample.send(firewall, 1, Sample.SYN + Sample.ACK, 249), V_PASS);
        check.due("ACK without rules", Sample.send(firewall, 0, Sample.ACK, 10), V_PASS);
        check.due("wrong ACK without rules", Sample.send(firewall, 0, Sample.ACK, 99), V_INVALID);
        check.due("UDP without rules", firewall.packet(Sample.UDP_ADDRS, Sample.UDP_PORTS, Sample.UDP, 0), V_PASS);
        check.due("RST without rules", Sample.send(firewall, 0, Sample.RST, 11), V_CLOSED);
        check.due("ACK after the RST", Sample.send(firewall, 0, Sample.ACK, 11), V_DROP);
    }

    private static void entriesAreApart(Check check) {
        StatefulFirewall firewall = Sample.acceptAll();
        Sample.lead(firewall, StatefulFirewall.ESTABLISHED, 9, 249);
        // Each differs from the flow in one part alone, or is its reply but for one swap.
        check.due("another protocol", firewall.packet(Sample.ADDRS, Sample.PORTS, Sample.UDP, 0), V_NEW);
        int[][] others = {{4 + 16 * 9, Sample.PORTS}, {3 + 16 * 8, Sample.PORTS}, {Sample.ADDRS, 6 + 16 * 7},
            {Sample.ADDRS, 5 + 16 * 6}, {Sample.REPLY_ADDRS, Sample.PORTS}};
        for (int[] other : others) {
            check.due("state of another", firewall.connState(other[0], other[1], Sample.TCP), 0);
            check.due("SYN of another", firewall.packet(other[0], other[1], Sample.tcp(Sample.SYN), 60), V_NEW);
            check.due("next of another", firewall.connNextSeq(other[0], other[1], Sample.TCP), 61);
        }
        check.due("connCount()", firewall.connCount(), 7);
        // Swapped addresses alone make the reply of the last one, not of the flow.
        check.due("reply", firewall.packet(Sample.ADDRS, Sample.REPLY_PORTS, Sample.tcp(3), 70), V_PASS);
        check.due("next of the flow", firewall.connNextSeq(Sample.ADDRS, Sample.PORTS, Sample.TCP), 11);
        check.due("next back", firewall.connNextSeq(Sample.REPLY_ADDRS, Sample.REPLY_PORTS, Sample.TCP), 250);
        int state = firewall.connState(Sample.REPLY_ADDRS, Sample.PORTS, Sample.TCP);
        check.due("state of the replied", state, StatefulFirewall.SYN_RECV);
    }

    private static void flowToItself(Check check) {
        StatefulFirewall firewall = Sample.acceptAll();
        int addrs = 5 + 16 * 5;
        int ports = 8 + 16 * 8;
        check.due("SYN to itself", firewall.packet(addrs, ports, Sample.tcp(Sample.SYN), 20), V_NEW);
        check.due("direction", firewall.connDirection(addrs, ports, Sample.TCP), 0);
        check.due("SYN+ACK to itself", firewall.packet(addrs, ports, Sample.tcp(3), 20), V_INVALID);
        check.due("SYN again", firewall.packet(addrs, ports, Sample.tcp(Sample.SYN), 20), V_PASS);
        check.due("RST out of window", firewall.packet(addrs, ports, Sample.tcp(Sample.RST), 20), V_INVALID);
        check.due("RST in window", firewall.packet(addrs, ports, Sample.tcp(Sample.RST), 21), V_CLOSED);
        check.due("UDP to itself", firewall.packet(addrs, ports, Sample.UDP, 0), V_NEW);
        check.due("UDP to itself again", firewall.packet(addrs, ports, Sample.UDP, 0), V_PASS);
        check.due("state", firewall.connState(addrs, ports, Sample.UDP), StatefulFirewall.UDP_NEW);
    }

    private static void removalKeepsTheOthers(Check check) {
        for (int removed = 0; removed < 5; removed++) {
            StatefulFirewall firewall = Sample.acceptAll();
            for (int i = 0; i < 5; i++) {
                firewall.packet(16 + i, 32, Sample.tcp(Sample.SYN), 10 * i);
                firewall.packet(1 + 16 * i, 2, Sample.tcp(Sample.SYN + Sample.ACK), 100 + 10 * i);
            }
            check.due("RST", firewall.packet(16 + removed, 32, Sample.tcp(Sample.RST), 10 * removed + 1), V_CLOSED);
            check.due("connCount()", firewall.connCount(), 4);
            for (int i = 0; i < 5; i++) {
                boolean kept = i != removed;
                check.due("state of " + i, firewall.connState(16 + i, 32, Sample.TCP), kept ? 2 : 0);
                check.due("time of " + i, firewall.connTimeLeft(16 + i, 32, Sample.TCP), kept ? 6 : -2);
                check.due("next of " + i, firewall.connNextSeq(16 + i, 32, Sample.TCP), kept ? 10 * i + 1 : -2);
                check.due("next back of " + i, firewall.connNextSeq(1 + 16 * i, 2, Sample.TCP),
                    kept ? 101 + 10 * i : -2);
            }
        }
    }

    private static void changesNeitherRulesNorClock(Check check) {
        StatefulFirewall firewall = Sample.busy();
        View before = View.of(firewall);
        check.due("ACK+FIN", Sample.send(firewall, 0, Sample.ACK + Sample.FIN, 11), V_PASS);
        check.due("UDP", firewall.packet(Sample.UDP_ADDRS, Sample.UDP_PORTS, Sample.UDP, 0), V_PASS);
        check.due("SYN", firewall.packet(2 + 16 * 9, 0, Sample.tcp(Sample.SYN), 0), V_NEW);
        check.due("RST", Sample.send(firewall, 0, Sample.RST, 12), V_CLOSED);
        check.due("now()", firewall.now(), 5);
        check.rulesUnchanged("packets", firewall, before);
    }
}
