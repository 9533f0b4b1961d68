/** Every sentence of "What it is" but for its constants, which SentencesConstantsTest goes through. */
public final class SentencesWhatItIsTest {
    private static final int DROP = StatefulFirewall.DROP;
    private static final int ACCEPT = StatefulFirewall.ACCEPT;
    private static final int NO_MATCH = StatefulFirewall.NO_MATCH;
    private static final int V_DROP = StatefulFirewall.V_DROP;
    private static final int V_NEW = StatefulFirewall.V_NEW;
    private static final int V_PASS = StatefulFirewall.V_PASS;
    private static final int V_INVALID = StatefulFirewall.V_INVALID;
    private static final int V_FULL = StatefulFirewall.V_FULL;
    private static final int V_CLOSED = StatefulFirewall.V_CLOSED;
    private static final int SYN = Sample.SYN;
    private static final int ACK = Sample.ACK;
    private static final int SYN_ACK = Sample.SYN + Sample.ACK;
    private static final int ACK_FIN = Sample.ACK + Sample.FIN;

    // The flow 3:5 -> 9:7 goes out over the edge below.
    private static final Flow OUT = new Flow(3);

    public static void main(String[] args) {
        Check check = new Check();
        guardsANetworkEdge(check);
        rulesAreAppendedInOrder(check);
        ruleNamesFiveThings(check);
        lowestIndexOrDefaultDecides(check);
        anyHeaderIsAnswered(check);
        shadowedAndRedundantAreReported(check);
        tableIsBounded(check);
        tcpIsFollowed(check);
        windowIsPerDirection(check);
        resetTearsDown(check);
        udpIsNewOrReplied(check);
        trackedFlowBypassesTheRules(check);
        everythingElseMeetsTheRules(check);
        clockExpiresEntries(check);
        check.end();
    }

    /** Inside are the addresses 0..7; they may open flows to the outside, but for port 13, and nobody else may. */
    private static StatefulFirewall edge() {
        StatefulFirewall firewall = new StatefulFirewall(8, 8, DROP);
        firewall.addRule(Sample.ALL, Sample.ALL, Sample.range(13, 13), Sample.DROP_ANY);
        firewall.addRule(Sample.prefix(0, 1), Sample.prefix(8, 1), Sample.ALL_PORTS, Sample.ACCEPT_ANY);
        return firewall;
    }

    private static void guardsANetworkEdge(Check check) {
        check.sentence("StatefulFirewall is an ordered first-match packet filter with connection tracking, "
            + "of the kind that guards a network edge.");
        StatefulFirewall firewall = edge();
        check.due("SYN from outside", OUT.tcp(firewall, 1, SYN, 200), V_DROP);
        check.due("UDP from outside", OUT.udp(firewall, 1), V_DROP);
        check.due("SYN from inside", OUT.tcp(firewall, 0, SYN, 100), V_NEW);
        check.due("SYN+ACK from outside", OUT.tcp(firewall, 1, SYN_ACK, 200), V_PASS);
        check.due("UDP from inside", OUT.udp(firewall, 0), V_NEW);
        check.due("UDP from outside in reply", OUT.udp(firewall, 1), V_PASS);
        // The rule for port 13 comes first, so the one that accepts is not asked.
        check.due("SYN from inside to port 13", firewall.packet(OUT.addrs(0), 5 + 16 * 13, Sample.tcp(SYN), 0), V_DROP);
    }

    private static void rulesAreAppendedInOrder(Check check) {
        check.sentence("Rules are appended in order.");
        StatefulFirewall firewall = Sample.dropAll();
        for (int i = 0; i < 16; i++) {
            check.due("addRule number " + i, firewall.addRule(79 - i, 64 + i, 240 + i, i % 3), i);
        }
        for (int i = 0; i < 16; i++) {
            check.due("ruleInfo(" + i + ", 0)", firewall.ruleInfo(i, 0), 79 - i);
            check.due("ruleInfo(" + i + ", 1)", firewall.ruleInfo(i, 1), 64 + i);
            check.due("ruleInfo(" + i + ", 2)", firewall.ruleInfo(i, 2), 240 + i);
            check.due("ruleInfo(" + i + ", 3)", firewall.ruleInfo(i, 3), i % 3);
        }
    }

    private static void ruleNamesFiveThings(Check check) {
        check.sentence("Each rule names a source address prefix, a destination address prefix, "
            + "a destination port range, a protocol (TCP, UDP or ANY) and an action (DROP or ACCEPT).");
        for (int protocol = 0; protocol <= 2; protocol++) {
            for (int action = 0; action < 2; action++) {
                StatefulFirewall firewall = new StatefulFirewall(4, 4, 1 - action);
                firewall.addRule(Sample.prefix(4, 3), Sample.prefix(12, 2), Sample.range(6, 9), protocol + 4 * action);
                int proto = protocol == StatefulFirewall.UDP ? Sample.UDP : Sample.TCP;
                int other = protocol == StatefulFirewall.ANY ? action : 1 - action;
                check.due("all named", firewall.classify(5 + 16 * 14, 16 * 7, proto), action);
                check.due("another source", firewall.classify(6 + 16 * 14, 16 * 7, proto), 1 - action);
                check.due("another destination", firewall.classify(5 + 16 * 11, 16 * 7, proto), 1 - action);
                check.due("another destination port", firewall.classify(5 + 16 * 14, 7 + 16 * 10, proto), 1 - action);
                check.due("the other protocol", firewall.classify(5 + 16 * 14, 16 * 7, 1 - proto), other);
            }
        }
    }

    private static void lowestIndexOrDefaultDecides(Check check) {
        check.sentence("A header is decided by the lowest-index rule that matches it, "
            + "or by the default action when no rule matches.");
        for (int byDefault = 0; byDefault < 2; byDefault++) {
            StatefulFirewall firewall = new StatefulFirewall(4, 4, byDefault);
            firewall.addRule(Sample.prefix(2, 4), Sample.ALL, Sample.ALL_PORTS, Sample.DROP_ANY);
            firewall.addRule(Sample.prefix(2, 3), Sample.ALL, Sample.ALL_PORTS, Sample.ACCEPT_ANY);
            firewall.addRule(Sample.prefix(0, 2), Sample.ALL, Sample.ALL_PORTS, Sample.DROP_ANY);
            int[] want = {DROP, DROP, DROP, ACCEPT, byDefault};
            for (int source = 0; source <= 4; source++) {
                check.due("classify of source " + source, firewall.classify(source, 0, 0), want[source]);
            }
        }
    }

    private static void anyHeaderIsAnswered(Check check) {
        check.sentence("The class answers the decision and the index of the deciding rule for any header.");
        StatefulFirewall firewall = edge();
        for (int header = 0; header < Sample.HEADERS; header++) {
            int addrs = Sample.addrsOf(header);
            int ports = Sample.portsOf(header);
            int proto = Sample.protoOf(header);
            boolean closedPort = ports >> 4 == 13;
            boolean outwards = (addrs & 15) < 8 && addrs >> 4 >= 8;
            int index = closedPort ? 0 : outwards ? 1 : NO_MATCH;
            int decision = index == 1 ? ACCEPT : DROP;
            String told = "(" + addrs + ", " + ports + ", " + proto + ")";
            check.due("matchingRule" + told, firewall.matchingRule(addrs, ports, proto), index);
            check.due("classify" + told, firewall.classify(addrs, ports, proto), decision);
        }
    }

    private static void shadowedAndRedundantAreReported(Check check) {
        check.sentence("It also reports which rules are shadowed (everything they match is already matched by "
            + "earlier rules) and which are redundant (removing them changes no decision).");
        StatefulFirewall firewall = new StatefulFirewall(8, 8, DROP);
        firewall.addRule(Sample.prefix(0, 1), Sample.ALL, Sample.ALL_PORTS, Sample.ACCEPT_ANY);
        firewall.addRule(Sample.prefix(4, 2), Sample.ALL, Sample.range(3, 5), Sample.DROP_ANY);
        firewall.addRule(Sample.prefix(8, 1), Sample.ALL, Sample.ALL_PORTS, Sample.DROP_UDP);
        firewall.addRule(Sample.prefix(8, 1), Sample.ALL, Sample.range(0, 7), Sample.ACCEPT_TCP);
        firewall.addRule(Sample.ALL, Sample.ALL, Sample.range(2, 6), Sample.ACCEPT_ANY);
        // Rule 1 lies inside rule 0; rule 2 drops what the default drops, but for what rule 4 would accept of it;
        // rules 0, 2 and 3 together have all that rule 4 matches.
        boolean[] shadowed = {false, true, false, false, true};
        boolean[] redundant = {false, true, false, false, true};
        reports(check, firewall, shadowed, redundant);
        // Without rule 4, rule 2 drops what falls to the default anyway, yet no earlier rule matches it.
        firewall.removeRule(4);
        reports(check, firewall, new boolean[] {false, true, false, false}, new boolean[] {false, true, true, false});
    }

    private static void reports(Check check, StatefulFirewall firewall, boolean[] shadowed, boolean[] redundant) {
        for (int index = 0; index < shadowed.length; index++) {
            check.due("shadowed(" + index + ")", firewall.shadowed(index), shadowed[index]);
            check.due("redundant(" + index + ")", firewall.redundant(index), redundant[index]);
        }
    }

    private static void tableIsBounded(Check check) {
        check.sentence("On top of the rules sits a connection table of bounded size.");
        StatefulFirewall firewall = edge();
        for (int source = 0; source < 8; source++) {
            check.due("flow " + source, new Flow(source).udp(firewall, 0), V_NEW);
        }
        check.due("flow beyond the bound", OUT.tcp(firewall, 0, SYN, 0), V_FULL);
        check.due("connCount()", firewall.connCount(), 8);
        check.due("ruleCount()", firewall.ruleCount(), 2);
    }

    private static void tcpIsFollowed(Check check) {
        check.sentence("A TCP connection opened by an accepted SYN is followed through SYN_SENT, SYN_RECV, "
            + "ESTABLISHED, the FIN states, CLOSING and TIME_WAIT, "
            + "with a sequence window of WINDOW per direction and RST teardown.");
        for (int first = 0; first < 2; first++) {
            StatefulFirewall firewall = edge();
            check.due("SYN", OUT.tcp(firewall, 0, SYN, 100), V_NEW);
            check.due("SYN_SENT", OUT.state(firewall, 0), StatefulFirewall.SYN_SENT);
            check.due("SYN+ACK", OUT.tcp(firewall, 1, SYN_ACK, 200), V_PASS);
            check.due("SYN_RECV", OUT.state(firewall, 0), StatefulFirewall.SYN_RECV);
            check.due("ACK", OUT.tcp(firewall, 0, ACK, 101), V_PASS);
            check.due("ESTABLISHED", OUT.state(firewall, 0), StatefulFirewall.ESTABLISHED);
            // Either side may be the first to end it.
            check.due("ACK+FIN", OUT.tcp(firewall, first, ACK_FIN, first == 0 ? 102 : 201), V_PASS);
            int half = first == 0 ? StatefulFirewall.FIN_ORIG : StatefulFirewall.FIN_REPLY;
            check.due("the FIN state", OUT.state(firewall, 0), half);
            check.due("ACK+FIN", OUT.tcp(firewall, 1 - first, ACK_FIN, first == 0 ? 201 : 102), V_PASS);
            check.due("CLOSING", OUT.state(firewall, 0), StatefulFirewall.CLOSING);
            check.due("ACK", OUT.tcp(firewall, first, ACK, first == 0 ? 103 : 202), V_PASS);
            check.due("TIME_WAIT", OUT.state(firewall, 0), StatefulFirewall.TIME_WAIT);
            check.due("tick(3)", firewall.tick(3), 0);
            check.due("tick(1)", firewall.tick(1), 1);
            check.due("NONE", OUT.state(firewall, 0), StatefulFirewall.NONE);
        }
    }

    private static void windowIsPerDirection(Check check) {
        check.sentence("with a sequence window of WINDOW per direction");
        for (int direction = 0; direction < 2; direction++) {
            for (int seq = 0; seq < 256; seq++) {
                StatefulFirewall firewall = edge();
                OUT.lead(firewall, StatefulFirewall.ESTABLISHED, 98, 199);
                int next = direction == 0 ? 100 : 200;
                boolean inside = seq >= next && seq < next + StatefulFirewall.WINDOW;
                String call = "ACK " + seq + " in direction " + direction;
                check.due(call, OUT.tcp(firewall, direction, ACK, seq), inside ? V_PASS : V_INVALID);
                int moved = inside ? seq + 1 : next;
                check.due("next after " + call, OUT.nextSeq(firewall, direction), moved);
                check.due("the other after " + call, OUT.nextSeq(firewall, 1 - direction), 300 - next);
            }
        }
    }

    private static void resetTearsDown(Check check) {
        check.sentence("RST teardown");
        for (int state = 1; state <= 7; state++) {
            for (int direction = 0; direction < 2; direction++) {
                StatefulFirewall firewall = edge();
                OUT.lead(firewall, state);
                int seq = direction == 0 ? Sample.nextOrigin(state, 9) : Sample.nextReply(state, 249);
                check.due("RST in state " + state, OUT.tcp(firewall, direction, Sample.RST, seq), V_CLOSED);
                check.due("connCount()", firewall.connCount(), 0);
                check.due("SYN anew", OUT.tcp(firewall, 0, SYN, 9), V_NEW);
            }
        }
    }

    private static void udpIsNewOrReplied(Check check) {
        check.sentence("UDP flows are tracked as new or replied.");
        StatefulFirewall firewall = edge();
        check.due("UDP", OUT.udp(firewall, 0), V_NEW);
        check.due("state", OUT.state(firewall, 1), StatefulFirewall.UDP_NEW);
        check.due("UDP in reply", OUT.udp(firewall, 1), V_PASS);
        check.due("state", OUT.state(firewall, 1), StatefulFirewall.UDP_REPLIED);
    }

    private static void trackedFlowBypassesTheRules(Check check) {
        check.sentence("Packets of a tracked flow bypass the rules in both directions");
        StatefulFirewall firewall = edge();
        OUT.lead(firewall, StatefulFirewall.ESTABLISHED);
        OUT.lead(firewall, StatefulFirewall.UDP_NEW);
        firewall.removeRule(1);
        for (int direction = 0; direction < 2; direction++) {
            int proto = Sample.TCP;
            check.due("classify", firewall.classify(OUT.addrs(direction), OUT.ports(direction), proto), DROP);
            check.due("ACK", OUT.tcp(firewall, direction, ACK, direction == 0 ? 11 : 250), V_PASS);
            check.due("UDP", OUT.udp(firewall, direction), V_PASS);
        }
    }

    private static void everythingElseMeetsTheRules(Check check) {
        check.sentence("and everything else meets the rules");
        StatefulFirewall firewall = edge();
        OUT.lead(firewall, StatefulFirewall.ESTABLISHED);
        // Each differs from the tracked flow or its replies in one part.
        check.due("another port back", firewall.packet(9 + 16 * 3, 7 + 16 * 6, Sample.tcp(ACK), 250), V_DROP);
        check.due("another source back", firewall.packet(10 + 16 * 3, 7 + 16 * 5, Sample.tcp(ACK), 250), V_DROP);
        check.due("UDP back", OUT.udp(firewall, 1), V_DROP);
        check.due("UDP", OUT.udp(firewall, 0), V_NEW);
        check.due("another port", firewall.packet(3 + 16 * 9, 6 + 16 * 7, Sample.tcp(ACK), 11), V_INVALID);
        check.due("another port, opening", firewall.packet(3 + 16 * 9, 6 + 16 * 7, Sample.tcp(SYN), 11), V_NEW);
        check.due("another target port", firewall.packet(3 + 16 * 9, 5 + 16 * 13, Sample.tcp(SYN), 11), V_DROP);
    }

    private static void clockExpiresEntries(Check check) {
        check.sentence("A logical clock, advanced by tick, expires entries by per-state timeouts.");
        int[] timeouts = {0, 6, 6, 40, 12, 12, 12, 4, 10, 30};
        StatefulFirewall firewall = Sample.acceptAll();
        for (int state = 1; state <= 9; state++) {
            new Flow(state).lead(firewall, state);
        }
        for (int now = 1; now <= 40; now++) {
            int due = 0;
            for (int state = 1; state <= 9; state++) {
                due += timeouts[state] == now ? 1 : 0;
            }
            check.due("tick(1) to " + now, firewall.tick(1), due);
            check.due("now()", firewall.now(), now);
            for (int state = 1; state <= 9; state++) {
                int want = now < timeouts[state] ? state : StatefulFirewall.NONE;
                check.due("state at " + now, new Flow(state).state(firewall, Sample.protoOfState(state)), want);
            }
        }
        check.due("connCount()", firewall.connCount(), 0);
    }
}
