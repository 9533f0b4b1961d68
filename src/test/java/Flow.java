/** The flow from an address to 9:7, over TCP or over UDP, that a test leads through the states. */
final class Flow {
    private final int source;
    private final int sourcePort;

    /** The source also tells the source port, so that two flows differ in both. */
    Flow(int source) {
        this.source = source;
        sourcePort = source + 2 & 15;
    }

    int addrs(int direction) {
        return direction == 0 ? source + 16 * 9 : 9 + 16 * source;
    }

    int ports(int direction) {
        return direction == 0 ? sourcePort + 16 * 7 : 7 + 16 * sourcePort;
    }

    int tcp(StatefulFirewall firewall, int direction, int flags, int seq) {
        return firewall.packet(addrs(direction), ports(direction), Sample.tcp(flags), seq & 255);
    }

    int udp(StatefulFirewall firewall, int direction) {
        return firewall.packet(addrs(direction), ports(direction), Sample.UDP, 0);
    }

    int state(StatefulFirewall firewall, int proto) {
        return firewall.connState(addrs(0), ports(0), proto);
    }

    int timeLeft(StatefulFirewall firewall, int proto) {
        return firewall.connTimeLeft(addrs(0), ports(0), proto);
    }

    int nextSeq(StatefulFirewall firewall, int direction) {
        return firewall.connNextSeq(addrs(direction), ports(direction), Sample.TCP);
    }

    /** Leads it into a state, over TCP or UDP as the state demands. */
    void lead(StatefulFirewall firewall, int state) {
        if (state < StatefulFirewall.UDP_NEW) {
            lead(firewall, state, 9, 249);
            return;
        }
        udp(firewall, 0);
        if (state == StatefulFirewall.UDP_REPLIED) {
            udp(firewall, 1);
        }
    }

    /** Leads it into a TCP state; the SYN has the number origin and the SYN+ACK the number reply. */
    void lead(StatefulFirewall firewall, int state, int origin, int reply) {
        tcp(firewall, 0, Sample.SYN, origin);
        if (state == StatefulFirewall.SYN_SENT) {
            return;
        }
        tcp(firewall, 1, Sample.SYN + Sample.ACK, reply);
        if (state == StatefulFirewall.SYN_RECV) {
            return;
        }
        tcp(firewall, 0, Sample.ACK, origin + 1);
        if (state == StatefulFirewall.ESTABLISHED) {
            return;
        }
        if (state == StatefulFirewall.FIN_REPLY) {
            tcp(firewall, 1, Sample.ACK + Sample.FIN, reply + 1);
            return;
        }
        tcp(firewall, 0, Sample.ACK + Sample.FIN, origin + 2);
        if (state == StatefulFirewall.FIN_ORIG) {
            return;
        }
        tcp(firewall, 1, Sample.ACK + Sample.FIN, reply + 1);
        if (state == StatefulFirewall.TIME_WAIT) {
            tcp(firewall, 0, Sample.ACK, origin + 3);
        }
    }
}
