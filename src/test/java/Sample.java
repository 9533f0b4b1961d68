/** Numbers and firewalls that several tests start from. */
final class Sample {
    static final int MIN = Integer.MIN_VALUE;
    static final int MAX = Integer.MAX_VALUE;

    static final int TCP = StatefulFirewall.TCP;
    static final int UDP = StatefulFirewall.UDP;
    static final int SYN = StatefulFirewall.SYN;
    static final int ACK = StatefulFirewall.ACK;
    static final int FIN = StatefulFirewall.FIN;
    static final int RST = StatefulFirewall.RST;

    static final int ALL = 0;
    static final int ALL_PORTS = 15 * 16;
    static final int DROP_TCP = 0;
    static final int DROP_UDP = 1;
    static final int DROP_ANY = 2;
    static final int ACCEPT_TCP = 4;
    static final int ACCEPT_UDP = 5;
    static final int ACCEPT_ANY = 6;

    // The flow 3:5 -> 9:7 and the header of its replies.
    static final Flow FLOW = new Flow(3);
    static final int ADDRS = 3 + 16 * 9;
    static final int PORTS = 5 + 16 * 7;
    static final int REPLY_ADDRS = 9 + 16 * 3;
    static final int REPLY_PORTS = 7 + 16 * 5;

    // A second flow that busy() tracks over UDP: 1:2 -> 9:4.
    static final int UDP_ADDRS = 1 + 16 * 9;
    static final int UDP_PORTS = 2 + 16 * 4;

    // Every valid header has a number below this one.
    static final int HEADERS = 2 * 256 * 256;

    private Sample() {
    }

    static int addrsOf(int header) {
        return header & 255;
    }

    static int portsOf(int header) {
        return header >> 8 & 255;
    }

    static int protoOf(int header) {
        return header >> 16;
    }

    static int prefix(int address, int length) {
        return address + 16 * length;
    }

    static int range(int low, int high) {
        return low + 16 * high;
    }

    static int tcp(int flags) {
        return TCP + 2 * flags;
    }

    /** Ints beside the range 0..greatest, near to it and far from it. */
    static int[] outside(int greatest) {
        return new int[] {MIN, MIN + 1, -65536, -256, -17, -16, -2, -1,
            greatest + 1, greatest + 2, greatest + 17, greatest + 256, 65536, MAX - 1, MAX};
    }

    static StatefulFirewall acceptAll() {
        return new StatefulFirewall(16, 16, StatefulFirewall.ACCEPT);
    }

    static StatefulFirewall dropAll() {
        return new StatefulFirewall(16, 16, StatefulFirewall.DROP);
    }

    /** Sends a TCP packet of the flow; direction 0 is the origin's. */
    static int send(StatefulFirewall firewall, int direction, int flags, int seq) {
        return FLOW.tcp(firewall, direction, flags, seq);
    }

    static void lead(StatefulFirewall firewall, int state, int origin, int reply) {
        FLOW.lead(firewall, state, origin, reply);
    }

    /** The number that the origin is to send next after lead. */
    static int nextOrigin(int state, int origin) {
        switch (state) {
            case StatefulFirewall.ESTABLISHED:
            case StatefulFirewall.FIN_REPLY:
                return origin + 2 & 255;
            case StatefulFirewall.FIN_ORIG:
            case StatefulFirewall.CLOSING:
                return origin + 3 & 255;
            case StatefulFirewall.TIME_WAIT:
                return origin + 4 & 255;
            default:
                return origin + 1 & 255;
        }
    }

    /** The number that the replying side is to send next after lead; NO_MATCH while there is none. */
    static int nextReply(int state, int reply) {
        switch (state) {
            case StatefulFirewall.SYN_SENT:
                return StatefulFirewall.NO_MATCH;
            case StatefulFirewall.SYN_RECV:
            case StatefulFirewall.ESTABLISHED:
            case StatefulFirewall.FIN_ORIG:
                return reply + 1 & 255;
            default:
                return reply + 2 & 255;
        }
    }

    /** The timeouts as the document tells them, by state. */
    static int timeout(int state) {
        int[] timeouts = {0, 6, 6, 40, 12, 12, 12, 4, 10, 30};
        return timeouts[state];
    }

    static void leadAny(StatefulFirewall firewall, int state) {
        FLOW.lead(firewall, state);
    }

    static int protoOfState(int state) {
        return state < StatefulFirewall.UDP_NEW ? TCP : UDP;
    }

    /** Three rules, the flow established, the UDP flow new, room for more of both, and a clock at 5. */
    static StatefulFirewall busy() {
        StatefulFirewall firewall = new StatefulFirewall(6, 6, StatefulFirewall.DROP);
        firewall.addRule(prefix(8, 1), prefix(4, 2), range(2, 6), DROP_UDP);
        firewall.addRule(ALL, prefix(9, 4), ALL_PORTS, ACCEPT_ANY);
        firewall.addRule(prefix(6, 3), ALL, range(3, 3), ACCEPT_TCP);
        firewall.tick(3);
        lead(firewall, StatefulFirewall.ESTABLISHED, 9, 249);
        firewall.packet(UDP_ADDRS, UDP_PORTS, UDP, 0);
        firewall.tick(2);
        return firewall;
    }
}
