import java.util.function.Supplier;

/** The sentences of promise 10 on what a packet is, where the steps start and what an accepted packet does. */
public final class Sentences10StepsTest {
    private static final int V_DROP = StatefulFirewall.V_DROP;
    private static final int V_NEW = StatefulFirewall.V_NEW;
    private static final int V_PASS = StatefulFirewall.V_PASS;
    private static final int V_INVALID = StatefulFirewall.V_INVALID;
    private static final int V_FULL = StatefulFirewall.V_FULL;
    private static final int V_CLOSED = StatefulFirewall.V_CLOSED;
    private static final int SYN = 1;
    private static final int ACK = 2;
    private static final int SYN_ACK = 3;
    private static final int ACK_FIN = 6;
    private static final int RST = 8;

    // The numbers that the flow awaits from its origin and from the reply.
    private static final int[] NEXT = {100, 200};
    private static final Flow FLOW = new Flow(12);

    // Every accepted case: state, direction, flags, how far ahead of the awaited number, new state, its timeout.
    private static final int[][] ACCEPTED = {
        {1, 0, SYN, -1, 1, 6}, {1, 1, SYN_ACK, 77, 2, 6},
        {2, 1, SYN_ACK, -1, 2, 6}, {2, 0, ACK, 5, 3, 40},
        {3, 0, ACK, 5, 3, 40}, {3, 1, ACK, 5, 3, 40}, {3, 0, ACK_FIN, 5, 4, 12}, {3, 1, ACK_FIN, 5, 5, 12},
        {4, 0, ACK, 5, 4, 12}, {4, 1, ACK, 5, 4, 12}, {4, 0, ACK_FIN, 5, 4, 12}, {4, 1, ACK_FIN, 5, 6, 12},
        {5, 0, ACK, 5, 5, 12}, {5, 1, ACK, 5, 5, 12}, {5, 0, ACK_FIN, 5, 6, 12}, {5, 1, ACK_FIN, 5, 5, 12},
        {6, 0, ACK, 5, 7, 4}, {6, 1, ACK, 5, 7, 4}, {6, 0, ACK_FIN, 5, 6, 12}, {6, 1, ACK_FIN, 5, 6, 12},
        {7, 0, ACK, 5, 7, 4}, {7, 1, ACK, 5, 7, 4}, {7, 0, ACK_FIN, 5, 7, 4}, {7, 1, ACK_FIN, 5, 7, 4},
        {8, 0, 0, 5, 8, 10}, {8, 1, 0, 5, 9, 30},
        {9, 0, 0, 5, 9, 30}, {9, 1, 0, 5, 9, 30},
    };

    public static void main(String[] args) {
        Check check = new Check();
        handlesOnePacket(check);
        protoFlagsAreASum(check);
        entryIsFoundByLookup(check);
        outcomeDependsOnTheState(check);
        windowAndRetransmitAreOfTheDirection(check);
        setsTheNewState(check);
        setsTheExpiry(check);
        answersPass(check);
        noOtherEntryChanges(check);
        decisionIsTakenForTheTuple(check);
        acceptLeadsOn(check);
        check.end();
    }

    private static void handlesOnePacket(Check check) {
        check.sentence("packet(addrs, ports, protoFlags, seq) handles one packet with header addrs and ports.");
        for (int proto = 0; proto < 2; proto++) {
            StatefulFirewall firewall = Sample.acceptAll();
            for (int i = 0; i < 16; i++) {
                // No two of these are the same flow or each other's reply.
                int addrs = i + 16 * 15;
                int ports = 15 - i;
                check.due("packet", firewall.packet(addrs, ports, proto == 1 ? 1 : 2 * SYN, i), V_NEW);
                check.due("connCount()", firewall.connCount(), i + 1);
                check.due("direction", firewall.connDirection(addrs, ports, proto), 0);
            }
        }
    }

    private static void protoFlagsAreASum(Check check) {
        check.sentence("Here protoFlags = proto + 2*flags, where flags is a sum of SYN, ACK, FIN and RST, "
            + "and seq is its sequence number.");
        StatefulFirewall firewall = Sample.acceptAll();
        int addrs = 4 + 16 * 11;
        int ports = 9 + 16 * 1;
        int back = 11 + 16 * 4;
        int backPorts = 1 + 16 * 9;
        check.due("TCP, SYN", firewall.packet(addrs, ports, 2, 20), V_NEW);
        check.due("UDP", firewall.packet(addrs, ports, 1, 20), V_NEW);
        check.due("TCP, SYN and ACK", firewall.packet(back, backPorts, 6, 120), V_PASS);
        check.due("TCP, ACK", firewall.packet(addrs, ports, 4, 21), V_PASS);
        check.due("state", firewall.connState(addrs, ports, 0), StatefulFirewall.ESTABLISHED);
        check.due("nxt[0] by the seq", firewall.connNextSeq(addrs, ports, 0), 22);
        check.due("nxt[1] by the seq", firewall.connNextSeq(back, backPorts, 0), 121);
        check.due("TCP, FIN without ACK", firewall.packet(addrs, ports, 8, 22), V_INVALID);
        check.due("TCP, ACK and FIN", firewall.packet(addrs, ports, 12, 22), V_PASS);
        check.due("state", firewall.connState(addrs, ports, 0), StatefulFirewall.FIN_ORIG);
        check.due("TCP, RST", firewall.packet(back, backPorts, 16, 121), V_CLOSED);
        check.due("UDP back", firewall.packet(back, backPorts, 1, 0), V_PASS);
        check.due("state over UDP", firewall.connState(addrs, ports, 1), StatefulFirewall.UDP_REPLIED);
        check.due("TCP, all flags", firewall.packet(addrs, ports, 30, 22), V_INVALID);
        check.due("TCP, no flag", firewall.packet(addrs, ports, 0, 22), V_INVALID);
    }

    /** The flow in a TCP state awaits 100 and 200, among one other entry of every state, at 1. */
    private static Supplier<StatefulFirewall> inState(int state) {
        return () -> {
            StatefulFirewall firewall = Sample.acceptAll();
            for (int other = 1; other <= 9; other++) {
                new Flow(other).lead(firewall, other);
            }
            if (state < StatefulFirewall.UDP_NEW) {
                FLOW.lead(firewall, state, NEXT[0] - Sample.nextOrigin(state, 0), NEXT[1] - Sample.nextReply(state, 0));
            } else {
                FLOW.lead(firewall, state);
            }
            firewall.tick(1);
            return firewall;
        };
    }

    private static int send(StatefulFirewall firewall, int state, int direction, int flags, int seq) {
        return state < StatefulFirewall.UDP_NEW ? FLOW.tcp(firewall, direction, flags, seq)
            : firewall.packet(FLOW.addrs(direction), FLOW.ports(direction), Sample.UDP, seq & 255);
    }

    private static int accept(StatefulFirewall firewall, int[] row) {
        return send(firewall, row[0], row[1], row[2], NEXT[row[1]] + row[3]);
    }

    private static String told(int[] row) {
        return "flags " + row[2] + " in state " + row[0] + ", direction " + row[1];
    }

    private static void entryIsFoundByLookup(Check check) {
        check.sentence("Step 2: an entry E is found by lookup with direction d. Rules are not consulted. "
            + "The cases are");
        for (int[] row : ACCEPTED) {
            StatefulFirewall firewall = inState(row[0]).get();
            int proto = Sample.protoOfState(row[0]);
            int direction = firewall.connDirection(FLOW.addrs(row[1]), FLOW.ports(row[1]), proto);
            check.due("direction of " + told(row), direction, row[1]);
            firewall.addRule(0, 0, 240, Sample.DROP_ANY);
            check.due(told(row), accept(firewall, row), V_PASS);
            check.due("connCount() after " + told(row), firewall.connCount(), 10);
        }
    }

    private static void outcomeDependsOnTheState(Check check) {
        check.sentence("TCP otherwise: the outcome depends on the state, as listed below.");
        // Numbers that pass, by state: one for a retransmit, all 256 for any, 32 for a window.
        int[] passing = {0, 1 + 256, 1 + 32, 4 * 32, 4 * 32, 4 * 32, 4 * 32, 4 * 32};
        for (int state = 1; state <= 7; state++) {
            int passed = 0;
            int invalid = 0;
            for (int number = 0; number < 2 * 8 * 256; number++) {
                StatefulFirewall firewall = Sample.acceptAll();
                FLOW.lead(firewall, state);
                int verdict = FLOW.tcp(firewall, number & 1, number >> 1 & 7, number >> 4);
                passed += verdict == V_PASS ? 1 : 0;
                invalid += verdict == V_INVALID ? 1 : 0;
            }
            check.due("packets that pass in state " + state, passed, passing[state]);
            check.due("packets that are invalid in state " + state, invalid, 2 * 8 * 256 - passing[state]);
        }
    }

    private static void windowAndRetransmitAreOfTheDirection(Check check) {
        check.sentence("In window and retransmit are for direction d.");
        for (int state = StatefulFirewall.ESTABLISHED; state <= StatefulFirewall.TIME_WAIT; state++) {
            for (int flags : new int[] {ACK, ACK_FIN, RST}) {
                int want = flags == RST ? V_CLOSED : V_PASS;
                for (int direction = 0; direction < 2; direction++) {
                    int own = FLOW.tcp(inState(state).get(), direction, flags, NEXT[direction] + 9);
                    int other = FLOW.tcp(inState(state).get(), direction, flags, NEXT[1 - direction] + 9);
                    String call = "flags " + flags + " in state " + state + ", direction " + direction;
                    check.due(call + ", in its own window", own, want);
                    check.due(call + ", in the other's window", other, V_INVALID);
                }
            }
        }
        int received = StatefulFirewall.SYN_RECV;
        check.due("ACK in its own window", FLOW.tcp(inState(received).get(), 0, ACK, 109), V_PASS);
        check.due("ACK in the other's window", FLOW.tcp(inState(received).get(), 0, ACK, 209), V_INVALID);
        check.due("SYN+ACK again", FLOW.tcp(inState(received).get(), 1, SYN_ACK, 199), V_PASS);
        check.due("SYN+ACK by the other's number", FLOW.tcp(inState(received).get(), 1, SYN_ACK, 99), V_INVALID);
        int sent = StatefulFirewall.SYN_SENT;
        check.due("SYN again", FLOW.tcp(inState(sent).get(), 0, SYN, 99), V_PASS);
        check.due("SYN by the other's number", FLOW.tcp(inState(sent).get(), 0, SYN, 199), V_INVALID);
    }

    private static void setsTheNewState(Check check) {
        check.sentence("Every accepted case (not RST), for TCP and for UDP alike, then does three things. "
            + "It sets the new state.");
        for (int[] row : ACCEPTED) {
            StatefulFirewall firewall = inState(row[0]).get();
            int proto = Sample.protoOfState(row[0]);
            check.due("state before " + told(row), FLOW.state(firewall, proto), row[0]);
            accept(firewall, row);
            check.due("state after " + told(row), FLOW.state(firewall, proto), row[4]);
            int back = firewall.connState(FLOW.addrs(1), FLOW.ports(1), proto);
            check.due("state back after " + told(row), back, row[4]);
        }
    }

    private static void setsTheExpiry(Check check) {
        check.sentence("It sets expiry = now + timeout(new state).");
        for (int[] row : ACCEPTED) {
            int proto = Sample.protoOfState(row[0]);
            int before = Sample.timeout(row[0]);
            // At every moment that the entry lives, the packet sets the time of the new state from then on.
            for (int age = 1; age < before; age++) {
                StatefulFirewall firewall = inState(row[0]).get();
                if (age > 1) {
                    firewall.tick(age - 1);
                }
                check.due("time left before " + told(row), FLOW.timeLeft(firewall, proto), before - age);
                accept(firewall, row);
                check.due("time left after " + told(row), FLOW.timeLeft(firewall, proto), row[5]);
                check.due("now()", firewall.now(), age);
            }
        }
    }

    private static void answersPass(Check check) {
        check.sentence("It answers V_PASS.");
        for (int[] row : ACCEPTED) {
            check.due(told(row), accept(inState(row[0]).get(), row), V_PASS);
        }
        // RST is accepted too, yet it answers otherwise and does none of the three.
        for (int state = 1; state <= 7; state++) {
            StatefulFirewall firewall = inState(state).get();
            check.due("RST in state " + state, FLOW.tcp(firewall, 0, RST, NEXT[0]), V_CLOSED);
            check.due("state after it", FLOW.state(firewall, Sample.TCP), StatefulFirewall.NONE);
        }
    }

    private static void noOtherEntryChanges(Check check) {
        check.sentence("No other entry changes.");
        for (int[] row : ACCEPTED) {
            StatefulFirewall firewall = inState(row[0]).get();
            StatefulFirewall untouched = inState(row[0]).get();
            accept(firewall, row);
            for (int other = 1; other <= 9; other++) {
                Flow flow = new Flow(other);
                int proto = Sample.protoOfState(other);
                check.due("state after " + told(row), flow.state(firewall, proto), other);
                check.due("time left", flow.timeLeft(firewall, proto), Sample.timeout(other) - 1);
                check.due("nxt[0]", flow.nextSeq(firewall, 0), flow.nextSeq(untouched, 0));
                check.due("nxt[1]", flow.nextSeq(firewall, 1), flow.nextSeq(untouched, 1));
            }
        }
    }

    private static void decisionIsTakenForTheTuple(Check check) {
        check.sentence("Step 3: no entry is found. The decision is taken for (src, dst, dport, proto).");
        StatefulFirewall firewall = new StatefulFirewall(4, 4, StatefulFirewall.DROP);
        firewall.addRule(Sample.prefix(6, 4), Sample.prefix(11, 4), Sample.range(3, 3), Sample.ACCEPT_TCP);
        firewall.addRule(Sample.prefix(2, 3), Sample.prefix(8, 2), Sample.range(5, 6), Sample.ACCEPT_UDP);
        for (int i = 0; i < 4; i++) {
            check.due("flow " + i, firewall.packet(6 + 16 * 11, i + 16 * 3, 2 * SYN, 0), V_NEW);
        }
        // The full table keeps the packets from changing anything: V_FULL tells the accepted ones.
        for (int header = 0; header < Sample.HEADERS; header++) {
            int src = header & 15;
            int dst = header >> 4 & 15;
            int dport = header >> 12 & 15;
            int proto = Sample.protoOf(header);
            int addrs = Sample.addrsOf(header);
            int ports = Sample.portsOf(header);
            boolean tcp = src == 6 && dst == 11 && dport == 3 && proto == 0;
            boolean udp = (src | 1) == 3 && (dst | 3) == 11 && (dport == 5 || dport == 6) && proto == 1;
            if (firewall.connState(addrs, ports, proto) == StatefulFirewall.NONE) {
                int verdict = firewall.packet(addrs, ports, proto == 1 ? 1 : 2 * SYN, 0);
                check.due("packet(" + addrs + ", " + ports + ") over " + proto, verdict, tcp || udp ? V_FULL : V_DROP);
            }
        }
    }

    private static void acceptLeadsOn(Check check) {
        check.sentence("If the decision is ACCEPT: TCP with flags != SYN gives V_INVALID. "
            + "Otherwise, if the table holds connCap entries, the answer is V_FULL. "
            + "Otherwise an entry is created and the answer is V_NEW.");
        for (int entries = 0; entries <= 4; entries++) {
            for (int number = 0; number <= 16; number++) {
                int protoFlags = number == 16 ? Sample.UDP : Sample.tcp(number);
                StatefulFirewall firewall = new StatefulFirewall(4, 4, StatefulFirewall.ACCEPT);
                for (int i = 0; i < entries; i++) {
                    new Flow(i).lead(firewall, StatefulFirewall.ESTABLISHED);
                }
                boolean opens = number == 16 || number == SYN;
                int want = !opens ? V_INVALID : entries == 4 ? V_FULL : V_NEW;
                String call = "packet with " + protoFlags + " beside " + entries + " entries";
                check.due(call, firewall.packet(FLOW.addrs(0), FLOW.ports(0), protoFlags, 0), want);
                check.due("connCount() after " + call, firewall.connCount(), want == V_NEW ? entries + 1 : entries);
            }
        }
    }
}
