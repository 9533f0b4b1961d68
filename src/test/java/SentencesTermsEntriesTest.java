/** Every sentence of "Terms" on the parts of an entry and on the lookup. */
public final class SentencesTermsEntriesTest {
    private static final int NO_MATCH = StatefulFirewall.NO_MATCH;
    private static final int NONE = StatefulFirewall.NONE;

    // The flow 1:2 -> 3:4; its four numbers differ, so that no part can stand for another.
    private static final int[] ORIGIN = {1, 2, 3, 4};
    private static final int SRC = 0;
    private static final int SPORT = 1;
    private static final int DST = 2;
    private static final int DPORT = 3;

    public static void main(String[] args) {
        Check check = new Check();
        entryHasAProto(check);
        entryHasTheOriginOfItsFirstPacket(check);
        originStays(check);
        entryHasAState(check);
        entryHasAnExpiry(check);
        tcpEntryHasTwoNumbers(check);
        lookupTakesAWholeHeader(check);
        lookupSeeksTheOrigin(check);
        lookupSeeksTheReply(check);
        originComesBeforeReply(check);
        check.end();
    }

    private static int addrs(int[] flow) {
        return flow[SRC] + 16 * flow[DST];
    }

    private static int ports(int[] flow) {
        return flow[SPORT] + 16 * flow[DPORT];
    }

    private static int[] reply(int[] flow) {
        return new int[] {flow[DST], flow[DPORT], flow[SRC], flow[SPORT]};
    }

    private static int open(StatefulFirewall firewall, int[] flow, int proto) {
        int protoFlags = proto == Sample.UDP ? Sample.UDP : Sample.tcp(Sample.SYN);
        return firewall.packet(addrs(flow), ports(flow), protoFlags, 50);
    }

    private static int direction(StatefulFirewall firewall, int[] flow, int proto) {
        return firewall.connDirection(addrs(flow), ports(flow), proto);
    }

    private static StatefulFirewall tracking(int proto) {
        StatefulFirewall firewall = Sample.acceptAll();
        open(firewall, ORIGIN, proto);
        return firewall;
    }

    private static String told(int[] flow) {
        return flow[SRC] + ":" + flow[SPORT] + " to " + flow[DST] + ":" + flow[DPORT];
    }

    private static void entryHasAProto(Check check) {
        check.sentence("An entry has: a proto;");
        for (int proto = 0; proto < 2; proto++) {
            StatefulFirewall firewall = tracking(proto);
            check.due("direction by its proto", direction(firewall, ORIGIN, proto), 0);
            check.due("direction by the other", direction(firewall, ORIGIN, 1 - proto), NO_MATCH);
            // With the other proto the same ends make an entry of their own.
            check.due("the other proto", open(firewall, ORIGIN, 1 - proto), StatefulFirewall.V_NEW);
            check.due("connCount()", firewall.connCount(), 2);
            int tcp = firewall.connState(addrs(ORIGIN), ports(ORIGIN), Sample.TCP);
            int udp = firewall.connState(addrs(ORIGIN), ports(ORIGIN), Sample.UDP);
            check.due("state over TCP", tcp, StatefulFirewall.SYN_SENT);
            check.due("state over UDP", udp, StatefulFirewall.UDP_NEW);
        }
    }

    private static void entryHasTheOriginOfItsFirstPacket(Check check) {
        check.sentence("the ORIGIN tuple (os, osp, od, odp), which is the src, sport, dst and dport of the packet "
            + "that created it");
        for (int proto = 0; proto < 2; proto++) {
            StatefulFirewall firewall = tracking(proto);
            // Of all the ways to lay the four numbers out, one is the origin and one its reply.
            for (int number = 0; number < 256; number++) {
                int[] flow = {1 + (number & 3), 1 + (number >> 2 & 3), 1 + (number >> 4 & 3), 1 + (number >> 6)};
                int want = told(flow).equals("1:2 to 3:4") ? 0 : told(flow).equals("3:4 to 1:2") ? 1 : NO_MATCH;
                check.due("direction of " + told(flow), direction(firewall, flow, proto), want);
            }
        }
    }

    private static void originStays(Check check) {
        check.sentence("the packet that created it");
        for (int state = 1; state <= 9; state++) {
            // The packets that lead it on come from both sides; the first alone tells the origin.
            StatefulFirewall firewall = Sample.acceptAll();
            Flow flow = new Flow(6);
            flow.lead(firewall, state);
            int proto = Sample.protoOfState(state);
            check.due("direction in state " + state, firewall.connDirection(flow.addrs(0), flow.ports(0), proto), 0);
            check.due("direction back", firewall.connDirection(flow.addrs(1), flow.ports(1), proto), 1);
            // Once it has gone, the other side may be the first.
            firewall.tick(100);
            open(firewall, new int[] {9, 7, 6, 8}, proto);
            check.due("direction turned", firewall.connDirection(flow.addrs(0), flow.ports(0), proto), 1);
            check.due("direction back turned", firewall.connDirection(flow.addrs(1), flow.ports(1), proto), 0);
        }
    }

    private static void entryHasAState(Check check) {
        check.sentence("a state;");
        StatefulFirewall firewall = Sample.acceptAll();
        for (int state = 1; state <= 9; state++) {
            new Flow(state).lead(firewall, state);
        }
        // Each has its own, and both sides see the same one.
        for (int state = 1; state <= 9; state++) {
            Flow flow = new Flow(state);
            int proto = Sample.protoOfState(state);
            check.due("state " + state, firewall.connState(flow.addrs(0), flow.ports(0), proto), state);
            check.due("state " + state + " back", firewall.connState(flow.addrs(1), flow.ports(1), proto), state);
        }
    }

    private static void entryHasAnExpiry(Check check) {
        check.sentence("an expiry time;");
        StatefulFirewall firewall = Sample.acceptAll();
        // One entry at each moment, all of one timeout; each keeps the expiry that it was given.
        for (int moment = 0; moment < 9; moment++) {
            new Flow(moment).lead(firewall, StatefulFirewall.UDP_NEW);
            firewall.tick(1);
        }
        for (int moment = 0; moment < 9; moment++) {
            int expiry = firewall.now() + new Flow(moment).timeLeft(firewall, Sample.UDP);
            check.due("expiry of the entry made at " + moment, expiry, moment + 10);
        }
        for (int moment = 0; moment < 9; moment++) {
            check.due("tick(1) to " + (moment + 10), firewall.tick(1), 1);
            check.due("state at its expiry", new Flow(moment).state(firewall, Sample.UDP), NONE);
        }
    }

    private static void tcpEntryHasTwoNumbers(Check check) {
        check.sentence("for TCP only, nxt[0] (origin direction) and nxt[1] (reply direction), each 0..255. "
            + "nxt[1] is UNSET while the state is SYN_SENT.");
        for (int state = 1; state <= 7; state++) {
            StatefulFirewall firewall = Sample.acceptAll();
            new Flow(2).lead(firewall, state, 30, 140);
            // Told by hand: SYN, SYN+ACK, then one number more for each packet of that side.
            int[] origin = {0, 31, 31, 32, 33, 32, 33, 34};
            int[] reply = {0, NO_MATCH, 141, 141, 141, 142, 142, 142};
            check.due("nxt[0] in state " + state, new Flow(2).nextSeq(firewall, 0), origin[state]);
            check.due("nxt[1] in state " + state, new Flow(2).nextSeq(firewall, 1), reply[state]);
        }
        for (int state = 8; state <= 9; state++) {
            StatefulFirewall firewall = Sample.acceptAll();
            Flow flow = new Flow(2);
            flow.lead(firewall, state);
            check.due("nxt[0] of UDP", firewall.connNextSeq(flow.addrs(0), flow.ports(0), Sample.UDP), NO_MATCH);
            check.due("nxt[1] of UDP", firewall.connNextSeq(flow.addrs(1), flow.ports(1), Sample.UDP), NO_MATCH);
        }
    }

    private static void lookupTakesAWholeHeader(Check check) {
        check.sentence("LOOKUP of a header (src, sport, dst, dport, proto) proceeds as follows");
        // packet and the four questions look up alike: what they find is the same entry, or none for all of them.
        StatefulFirewall firewall = Places.fullOfSixteen();
        for (int header = 0; header < Sample.HEADERS; header++) {
            int addrs = Sample.addrsOf(header);
            int ports = Sample.portsOf(header);
            int proto = Sample.protoOf(header);
            boolean found = firewall.connState(addrs, ports, proto) != NONE;
            String call = HeaderCall.CONN_STATE.told(addrs, ports, proto);
            check.due(call + " and direction", firewall.connDirection(addrs, ports, proto) != NO_MATCH, found);
            check.due(call + " and time left", firewall.connTimeLeft(addrs, ports, proto) != NO_MATCH, found);
            if (!found) {
                check.due(call + " and next", firewall.connNextSeq(addrs, ports, proto), NO_MATCH);
            }
            // A SYN with this number passes in no state, and the full table takes no new flow.
            int verdict = firewall.packet(addrs, ports, proto == Sample.UDP ? Sample.UDP : Sample.tcp(Sample.SYN), 0);
            boolean tracked = verdict == StatefulFirewall.V_PASS || verdict == StatefulFirewall.V_INVALID;
            check.due(call + " and packet", tracked, found);
        }
        check.due("connCount()", firewall.connCount(), 16);
    }

    private static void lookupSeeksTheOrigin(Check check) {
        check.sentence("First it seeks the entry with the same proto and os == src, osp == sport, od == dst, "
            + "odp == dport. Such an entry is found with direction d = 0.");
        seeks(check, ORIGIN, 0);
    }

    private static void lookupSeeksTheReply(Check check) {
        check.sentence("Otherwise it seeks the entry with the same proto and os == dst, osp == dport, od == src, "
            + "odp == sport. Such an entry is found with d = 1.");
        seeks(check, reply(ORIGIN), 1);
    }

    /** The header finds the entry, and no header does that differs from it in one part or in the proto. */
    private static void seeks(Check check, int[] header, int want) {
        for (int proto = 0; proto < 2; proto++) {
            StatefulFirewall firewall = tracking(proto);
            check.due("direction of " + told(header), direction(firewall, header, proto), want);
            check.due("direction by the other proto", direction(firewall, header, 1 - proto), NO_MATCH);
            for (int part = SRC; part <= DPORT; part++) {
                for (int value = 0; value < 16; value++) {
                    int[] other = header.clone();
                    other[part] = value;
                    int due = value == header[part] ? want : NO_MATCH;
                    check.due("direction of " + told(other), direction(firewall, other, proto), due);
                }
            }
        }
    }

    private static void originComesBeforeReply(Check check) {
        check.sentence("First it seeks the entry with the same proto");
        for (int proto = 0; proto < 2; proto++) {
            StatefulFirewall firewall = Sample.acceptAll();
            for (int end = 0; end < 16; end++) {
                int[] self = {end, 15 - end, end, 15 - end};
                open(firewall, self, proto);
                // Both steps would find it; the first one does.
                check.due("direction of " + told(self), direction(firewall, self, proto), 0);
            }
        }
    }
}
