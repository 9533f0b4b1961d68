/** Promise 10: every flag sum and every sequence number in every TCP state, in both directions. */
public final class Promise10TcpStatesTest {
    private static final int BOTH = -1;
    private static final int RETRANSMIT = 0;
    private static final int IN_WINDOW = 1;
    private static final int ANY_SEQ = 2;

    private static final int SYN_ACK = StatefulFirewall.SYN + StatefulFirewall.ACK;
    private static final int ACK = StatefulFirewall.ACK;
    private static final int ACK_FIN = StatefulFirewall.ACK + StatefulFirewall.FIN;

    // The accepted cases in the document's order: state, direction, flags, sequence number, new state.
    private static final int[][] ACCEPTED = {
        {StatefulFirewall.SYN_SENT, 0, StatefulFirewall.SYN, RETRANSMIT, StatefulFirewall.SYN_SENT},
        {StatefulFirewall.SYN_SENT, 1, SYN_ACK, ANY_SEQ, StatefulFirewall.SYN_RECV},
        {StatefulFirewall.SYN_RECV, 1, SYN_ACK, RETRANSMIT, StatefulFirewall.SYN_RECV},
        {StatefulFirewall.SYN_RECV, 0, ACK, IN_WINDOW, StatefulFirewall.ESTABLISHED},
        {StatefulFirewall.ESTABLISHED, BOTH, ACK, IN_WINDOW, StatefulFirewall.ESTABLISHED},
        {StatefulFirewall.ESTABLISHED, 0, ACK_FIN, IN_WINDOW, StatefulFirewall.FIN_ORIG},
        {StatefulFirewall.ESTABLISHED, 1, ACK_FIN, IN_WINDOW, StatefulFirewall.FIN_REPLY},
        {StatefulFirewall.FIN_ORIG, BOTH, ACK, IN_WINDOW, StatefulFirewall.FIN_ORIG},
        {StatefulFirewall.FIN_ORIG, 0, ACK_FIN, IN_WINDOW, StatefulFirewall.FIN_ORIG},
        {StatefulFirewall.FIN_ORIG, 1, ACK_FIN, IN_WINDOW, StatefulFirewall.CLOSING},
        {StatefulFirewall.FIN_REPLY, BOTH, ACK, IN_WINDOW, StatefulFirewall.FIN_REPLY},
        {StatefulFirewall.FIN_REPLY, 1, ACK_FIN, IN_WINDOW, StatefulFirewall.FIN_REPLY},
        {StatefulFirewall.FIN_REPLY, 0, ACK_FIN, IN_WINDOW, StatefulFirewall.CLOSING},
        {StatefulFirewall.CLOSING, BOTH, ACK, IN_WINDOW, StatefulFirewall.TIME_WAIT},
        {StatefulFirewall.CLOSING, BOTH, ACK_FIN, IN_WINDOW, StatefulFirewall.CLOSING},
        {StatefulFirewall.TIME_WAIT, BOTH, ACK, IN_WINDOW, StatefulFirewall.TIME_WAIT},
        {StatefulFirewall.TIME_WAIT, BOTH, ACK_FIN, IN_WINDOW, StatefulFirewall.TIME_WAIT},
    };

    // The numbers of the SYN and of the SYN+ACK, chosen so that windows and retransmits cross 255.
    private static final int[][] STARTS = {{9, 249}, {255, 255}, {250, 100}, {254, 253}, {200, 225}};

    private final Check check = new Check();
    private final int state;
    private final int origin;
    private final int reply;

    private Promise10TcpStatesTest(int state, int[] start) {
        this.state = state;
        origin = start[0];
        reply = start[1];
    }

    public static void main(String[] args) {
        for (int[] start : STARTS) {
            for (int state = StatefulFirewall.SYN_SENT; state <= StatefulFirewall.TIME_WAIT; state++) {
                Promise10TcpStatesTest test = new Promise10TcpStatesTest(state, start);
                for (int packet = 0; packet < 2 * 16 * 256; packet++) {
                    test.send(packet & 1, packet >> 1 & 15, packet >> 5);
                }
                test.check.end();
            }
        }
    }

    private void send(int direction, int flags, int seq) {
        StatefulFirewall firewall = Sample.acceptAll();
        firewall.packet(100, 100, Sample.tcp(Sample.SYN), 100);
        Sample.lead(firewall, state, origin, reply);
        firewall.packet(101, 101, Sample.UDP, 0);
        firewall.tick(2);
        String call = "state " + state + ", direction " + direction + ", flags " + flags + ", seq " + seq;
        int got = Sample.send(firewall, direction, flags, seq);
        if ((flags & StatefulFirewall.RST) != 0) {
            reset(call, firewall, got, direction, seq);
        } else {
            follow(call, firewall, got, direction, flags, seq);
        }
        check.due("the entry before, " + call, firewall.connTimeLeft(100, 100, Sample.TCP), 4);
        check.due("next of the entry before, " + call, firewall.connNextSeq(100, 100, Sample.TCP), 101);
        check.due("the entry behind, " + call, firewall.connTimeLeft(101, 101, Sample.UDP), 8);
    }

    private void reset(String call, StatefulFirewall firewall, int got, int direction, int seq) {
        boolean refused = state == StatefulFirewall.SYN_SENT && direction == 1;
        boolean closes = refused || fits(IN_WINDOW, direction, seq);
        check.due(call, got, closes ? StatefulFirewall.V_CLOSED : StatefulFirewall.V_INVALID);
        if (closes) {
            gone(call, firewall);
        } else {
            same(call, firewall);
        }
    }

    private void follow(String call, StatefulFirewall firewall, int got, int direction, int flags, int seq) {
        for (int[] row : ACCEPTED) {
            boolean direct = row[1] == BOTH || row[1] == direction;
            if (row[0] == state && direct && row[2] == flags && fits(row[3], direction, seq)) {
                check.due(call, got, StatefulFirewall.V_PASS);
                int sent = (seq + 1) % 256;
                int nextOrigin = direction == 0 ? sent : Sample.nextOrigin(state, origin);
                int nextReply = direction == 1 ? sent : Sample.nextReply(state, reply);
                stands(call, firewall, row[4], Sample.timeout(row[4]), nextOrigin, nextReply);
                return;
            }
        }
        check.due(call, got, StatefulFirewall.V_INVALID);
        same(call, firewall);
    }

    private boolean fits(int kind, int direction, int seq) {
        if (kind == ANY_SEQ) {
            return true;
        }
        int next = direction == 0 ? Sample.nextOrigin(state, origin) : Sample.nextReply(state, reply);
        int ahead = (seq - next + 512) % 256;
        return kind == RETRANSMIT ? ahead == 255 : ahead <= 31;
    }

    private void same(String call, StatefulFirewall firewall) {
        int left = Sample.timeout(state) - 2;
        stands(call, firewall, state, left, Sample.nextOrigin(state, origin), Sample.nextReply(state, reply));
    }

    private void stands(String call, StatefulFirewall firewall, int want, int left, int nextOrigin, int nextReply) {
        check.due("new state, " + call, firewall.connState(Sample.ADDRS, Sample.PORTS, 0), want);
        check.due("time left, " + call, firewall.connTimeLeft(Sample.ADDRS, Sample.PORTS, 0), left);
        check.due("next 0, " + call, firewall.connNextSeq(Sample.ADDRS, Sample.PORTS, 0), nextOrigin);
        check.due("next 1, " + call, firewall.connNextSeq(Sample.REPLY_ADDRS, Sample.REPLY_PORTS, 0), nextReply);
        check.due("direction, " + call, firewall.connDirection(Sample.REPLY_ADDRS, Sample.REPLY_PORTS, 0), 1);
        check.due("connCount(), " + call, firewall.connCount(), 3);
    }

    private void gone(String call, StatefulFirewall firewall) {
        check.due("state, " + call, firewall.connState(Sample.ADDRS, Sample.PORTS, 0), StatefulFirewall.NONE);
        check.due("state back, " + call, firewall.connState(Sample.REPLY_ADDRS, Sample.REPLY_PORTS, 0), 0);
        check.due("connCount(), " + call, firewall.connCount(), 2);
    }
}
