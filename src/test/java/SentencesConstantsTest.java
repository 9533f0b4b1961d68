/** Every line of "Public constants" in "What it is": the numbers, and the calls that take and answer them. */
public final class SentencesConstantsTest {
    private static final Flow FLOW = new Flow(5);

    public static void main(String[] args) {
        Check check = new Check();
        specialAnswers(check);
        actions(check);
        protocols(check);
        anyIsOfRulesAlone(check);
        flags(check);
        window(check);
        verdictDrop(check);
        verdictNew(check);
        verdictPass(check);
        verdictInvalid(check);
        verdictFull(check);
        verdictClosed(check);
        connectionStates(check);
        timeouts(check);
        check.end();
    }

    private static void specialAnswers(Check check) {
        check.sentence("Special answers: BAD = -1, NO_MATCH = -2.");
        check.due("BAD", StatefulFirewall.BAD, -1);
        check.due("NO_MATCH", StatefulFirewall.NO_MATCH, -2);
        StatefulFirewall firewall = Sample.acceptAll();
        check.due("addRule", firewall.addRule(80, 0, 240, 6), -1);
        check.due("removeRule", firewall.removeRule(0), -1);
        check.due("ruleInfo", firewall.ruleInfo(0, 0), -1);
        check.due("packet", firewall.packet(256, 0, 1, 0), -1);
        check.due("tick", firewall.tick(0), -1);
        for (HeaderCall call : HeaderCall.values()) {
            check.due(call.told(256, 0, 0), call.ask(firewall, 256, 0, 0), -1);
        }
        check.due("matchingRule", firewall.matchingRule(0, 0, 0), -2);
        check.due("connDirection", firewall.connDirection(0, 0, 0), -2);
        check.due("connTimeLeft", firewall.connTimeLeft(0, 0, 0), -2);
        check.due("connNextSeq", firewall.connNextSeq(0, 0, 0), -2);
    }

    private static void actions(Check check) {
        check.sentence("Actions: DROP = 0, ACCEPT = 1.");
        check.due("DROP", StatefulFirewall.DROP, 0);
        check.due("ACCEPT", StatefulFirewall.ACCEPT, 1);
        for (int action = 0; action < 2; action++) {
            StatefulFirewall firewall = new StatefulFirewall(4, 4, action);
            check.due("classify by default", firewall.classify(0, 0, 0), action);
            firewall.addRule(0, 0, 240, 2 + 4 * (1 - action));
            check.due("classify by a rule", firewall.classify(0, 0, 0), 1 - action);
        }
    }

    private static void protocols(Check check) {
        check.sentence("Protocols: TCP = 0, UDP = 1, ANY = 2.");
        check.due("TCP", StatefulFirewall.TCP, 0);
        check.due("UDP", StatefulFirewall.UDP, 1);
        check.due("ANY", StatefulFirewall.ANY, 2);
        StatefulFirewall firewall = Sample.dropAll();
        firewall.addRule(64, 0, 240, 0);
        firewall.addRule(64, 0, 240, 1);
        firewall.addRule(65, 0, 240, 2);
        check.due("matchingRule of TCP", firewall.matchingRule(0, 0, 0), 0);
        check.due("matchingRule of UDP", firewall.matchingRule(0, 0, 1), 1);
        check.due("matchingRule of TCP by ANY", firewall.matchingRule(1, 0, 0), 2);
        check.due("matchingRule of UDP by ANY", firewall.matchingRule(1, 0, 1), 2);
    }

    private static void anyIsOfRulesAlone(Check check) {
        check.sentence("ANY appears only in rules.");
        StatefulFirewall firewall = Sample.acceptAll();
        check.due("addRule with ANY", firewall.addRule(0, 0, 240, StatefulFirewall.ANY + 4), 0);
        FLOW.lead(firewall, StatefulFirewall.ESTABLISHED);
        FLOW.lead(firewall, StatefulFirewall.UDP_NEW);
        for (HeaderCall call : HeaderCall.values()) {
            for (int direction = 0; direction < 2; direction++) {
                int addrs = FLOW.addrs(direction);
                int ports = FLOW.ports(direction);
                int got = call.ask(firewall, addrs, ports, StatefulFirewall.ANY);
                check.due(call.told(addrs, ports, 2), got, StatefulFirewall.BAD);
            }
        }
        // To packet, 2 is TCP with SYN: the SYN of a connection that stands.
        check.due("packet with 2", firewall.packet(FLOW.addrs(0), FLOW.ports(0), StatefulFirewall.ANY, 0), 3);
    }

    private static void flags(Check check) {
        check.sentence("Flags: SYN = 1, ACK = 2, FIN = 4, RST = 8.");
        check.due("SYN", StatefulFirewall.SYN, 1);
        check.due("ACK", StatefulFirewall.ACK, 2);
        check.due("FIN", StatefulFirewall.FIN, 4);
        check.due("RST", StatefulFirewall.RST, 8);
        StatefulFirewall firewall = Sample.acceptAll();
        check.due("1 opens", FLOW.tcp(firewall, 0, 1, 10), 1);
        check.due("1 + 2 answers it", FLOW.tcp(firewall, 1, 3, 70), 2);
        check.due("2 establishes it", FLOW.tcp(firewall, 0, 2, 11), 2);
        check.due("2 + 4 ends it", FLOW.tcp(firewall, 0, 6, 12), 2);
        check.due("state", FLOW.state(firewall, 0), 4);
        check.due("8 tears it down", FLOW.tcp(firewall, 0, 8, 13), 5);
    }

    private static void window(Check check) {
        check.sentence("WINDOW = 32.");
        check.due("WINDOW", StatefulFirewall.WINDOW, 32);
        for (int direction = 0; direction < 2; direction++) {
            int passed = 0;
            for (int seq = 0; seq < 256; seq++) {
                StatefulFirewall firewall = Sample.acceptAll();
                FLOW.lead(firewall, StatefulFirewall.ESTABLISHED);
                passed += FLOW.tcp(firewall, direction, StatefulFirewall.ACK, seq) == 2 ? 1 : 0;
            }
            check.due("numbers in window in direction " + direction, passed, 32);
        }
    }

    private static void verdictDrop(Check check) {
        check.sentence("V_DROP = 0: decision DROP, no entry found.");
        check.due("V_DROP", StatefulFirewall.V_DROP, 0);
        StatefulFirewall firewall = Sample.dropAll();
        check.due("SYN by default DROP", FLOW.tcp(firewall, 0, 1, 0), 0);
        check.due("UDP by default DROP", FLOW.udp(firewall, 0), 0);
        check.due("connCount()", firewall.connCount(), 0);
        // With an entry found, the decision is not asked for.
        StatefulFirewall tracking = Sample.acceptAll();
        FLOW.udp(tracking, 0);
        tracking.addRule(0, 0, 240, Sample.DROP_ANY);
        check.due("UDP of an entry", FLOW.udp(tracking, 0), 2);
        check.due("SYN without an entry", FLOW.tcp(tracking, 0, 1, 0), 0);
    }

    private static void verdictNew(Check check) {
        check.sentence("V_NEW = 1: decision ACCEPT, entry created.");
        check.due("V_NEW", StatefulFirewall.V_NEW, 1);
        StatefulFirewall firewall = Sample.acceptAll();
        check.due("SYN", FLOW.tcp(firewall, 0, 1, 0), 1);
        check.due("connCount()", firewall.connCount(), 1);
        check.due("UDP", FLOW.udp(firewall, 0), 1);
        check.due("connCount()", firewall.connCount(), 2);
    }

    private static void verdictPass(Check check) {
        check.sentence("V_PASS = 2: accepted by a found entry.");
        check.due("V_PASS", StatefulFirewall.V_PASS, 2);
        StatefulFirewall firewall = Sample.acceptAll();
        FLOW.lead(firewall, StatefulFirewall.ESTABLISHED);
        FLOW.lead(firewall, StatefulFirewall.UDP_NEW);
        check.due("ACK", FLOW.tcp(firewall, 0, 2, 11), 2);
        check.due("UDP", FLOW.udp(firewall, 1), 2);
        check.due("connCount()", firewall.connCount(), 2);
    }

    private static void verdictInvalid(Check check) {
        check.sentence("V_INVALID = 3: dropped as invalid for the state.");
        check.due("V_INVALID", StatefulFirewall.V_INVALID, 3);
        for (int state = 1; state <= 7; state++) {
            StatefulFirewall firewall = Sample.acceptAll();
            FLOW.lead(firewall, state);
            check.due("no flag in state " + state, FLOW.tcp(firewall, 0, 0, Sample.nextOrigin(state, 9)), 3);
            check.due("state after it", FLOW.state(firewall, 0), state);
        }
        check.due("ACK without an entry", FLOW.tcp(Sample.acceptAll(), 0, 2, 0), 3);
    }

    private static void verdictFull(Check check) {
        check.sentence("V_FULL = 4: decision ACCEPT but table full.");
        check.due("V_FULL", StatefulFirewall.V_FULL, 4);
        StatefulFirewall firewall = new StatefulFirewall(4, 4, 1);
        for (int source = 0; source < 4; source++) {
            new Flow(source).udp(firewall, 0);
        }
        check.due("SYN", FLOW.tcp(firewall, 0, 1, 0), 4);
        check.due("UDP", FLOW.udp(firewall, 0), 4);
        firewall.addRule(0, 0, 240, Sample.DROP_ANY);
        check.due("SYN that is dropped", FLOW.tcp(firewall, 0, 1, 0), 0);
    }

    private static void verdictClosed(Check check) {
        check.sentence("V_CLOSED = 5: accepted RST, entry removed.");
        check.due("V_CLOSED", StatefulFirewall.V_CLOSED, 5);
        StatefulFirewall firewall = Sample.acceptAll();
        FLOW.lead(firewall, StatefulFirewall.ESTABLISHED);
        check.due("RST that is not accepted", FLOW.tcp(firewall, 0, 8, 10), 3);
        check.due("connCount()", firewall.connCount(), 1);
        check.due("RST", FLOW.tcp(firewall, 0, 8, 11), 5);
        check.due("connCount()", firewall.connCount(), 0);
    }

    private static void connectionStates(Check check) {
        check.sentence("Connection states: NONE = 0, SYN_SENT = 1, SYN_RECV = 2, ESTABLISHED = 3, FIN_ORIG = 4, "
            + "FIN_REPLY = 5, CLOSING = 6, TIME_WAIT = 7, UDP_NEW = 8, UDP_REPLIED = 9.");
        int[] constants = {StatefulFirewall.NONE, StatefulFirewall.SYN_SENT, StatefulFirewall.SYN_RECV,
            StatefulFirewall.ESTABLISHED, StatefulFirewall.FIN_ORIG, StatefulFirewall.FIN_REPLY,
            StatefulFirewall.CLOSING, StatefulFirewall.TIME_WAIT, StatefulFirewall.UDP_NEW,
            StatefulFirewall.UDP_REPLIED};
        for (int state = 0; state <= 9; state++) {
            check.due("the constant", constants[state], state);
        }
        // Each is reached by packets that are told as numbers: direction, flags, seq.
        reaches(check, 1, new int[][] {{0, 1, 9}});
        reaches(check, 2, new int[][] {{0, 1, 9}, {1, 3, 99}});
        reaches(check, 3, new int[][] {{0, 1, 9}, {1, 3, 99}, {0, 2, 10}});
        reaches(check, 4, new int[][] {{0, 1, 9}, {1, 3, 99}, {0, 2, 10}, {0, 6, 11}});
        reaches(check, 5, new int[][] {{0, 1, 9}, {1, 3, 99}, {0, 2, 10}, {1, 6, 100}});
        reaches(check, 6, new int[][] {{0, 1, 9}, {1, 3, 99}, {0, 2, 10}, {0, 6, 11}, {1, 6, 100}});
        reaches(check, 7, new int[][] {{0, 1, 9}, {1, 3, 99}, {0, 2, 10}, {0, 6, 11}, {1, 6, 100}, {0, 2, 12}});
        StatefulFirewall firewall = Sample.acceptAll();
        check.due("no packet", FLOW.state(firewall, 1), 0);
        FLOW.udp(firewall, 0);
        check.due("UDP", FLOW.state(firewall, 1), 8);
        FLOW.udp(firewall, 1);
        check.due("UDP in reply", FLOW.state(firewall, 1), 9);
    }

    private static void reaches(Check check, int state, int[][] packets) {
        StatefulFirewall firewall = Sample.acceptAll();
        for (int[] packet : packets) {
            FLOW.tcp(firewall, packet[0], packet[1], packet[2]);
        }
        check.due("the state reached", FLOW.state(firewall, 0), state);
    }

    private static void timeouts(Check check) {
        check.sentence("Timeouts, in clock units: T_SYN_SENT = 6 and T_SYN_RECV = 6.");
        lasts(check, 1, StatefulFirewall.T_SYN_SENT, 6);
        lasts(check, 2, StatefulFirewall.T_SYN_RECV, 6);
        check.sentence("T_ESTABLISHED = 40.");
        lasts(check, 3, StatefulFirewall.T_ESTABLISHED, 40);
        check.sentence("T_FIN = 12, used for both FIN_ORIG and FIN_REPLY.");
        lasts(check, 4, StatefulFirewall.T_FIN, 12);
        lasts(check, 5, StatefulFirewall.T_FIN, 12);
        check.sentence("T_CLOSING = 12.");
        lasts(check, 6, StatefulFirewall.T_CLOSING, 12);
        check.sentence("T_TIME_WAIT = 4.");
        lasts(check, 7, StatefulFirewall.T_TIME_WAIT, 4);
        check.sentence("T_UDP_NEW = 10 and T_UDP_REPLIED = 30.");
        lasts(check, 8, StatefulFirewall.T_UDP_NEW, 10);
        lasts(check, 9, StatefulFirewall.T_UDP_REPLIED, 30);
    }

    /** Ticks of one, the clock's unit, until the entry has gone. */
    private static void lasts(Check check, int state, int constant, int units) {
        check.due("the constant of state " + state, constant, units);
        StatefulFirewall firewall = Sample.acceptAll();
        FLOW.lead(firewall, state);
        int lasted = 1;
        while (lasted < 100 && firewall.tick(1) == 0) {
            lasted++;
        }
        check.due("units that state " + state + " lasts", lasted, units);
    }
}
