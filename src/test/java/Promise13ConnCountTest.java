/** Promise 13: connCount. */
public final class Promise13ConnCountTest {
    public static void main(String[] args) {
        Check check = new Check();
        countsUpToTheCapacity(check);
        countsEveryWayOut(check);
        asksOnly(check);
        check.end();
    }

    private static void countsUpToTheCapacity(Check check) {
        for (int cap = 4; cap <= 16; cap++) {
            StatefulFirewall firewall = new StatefulFirewall(4, cap, StatefulFirewall.ACCEPT);
            for (int i = 1; i <= 20; i++) {
                firewall.packet(16 + i % 16, 32 + i / 16, i % 2 == 0 ? Sample.UDP : Sample.tcp(Sample.SYN), 0);
                check.due("connCount() after " + i + " flows", firewall.connCount(), i < cap ? i : cap);
            }
        }
    }

    private static void countsEveryWayOut(Check check) {
        StatefulFirewall firewall = Sample.acceptAll();
        check.due("connCount() of a new firewall", firewall.connCount(), 0);
        firewall.packet(1, 2, Sample.UDP, 0);
        Sample.lead(firewall, StatefulFirewall.SYN_RECV, 9, 249);
        firewall.packet(3, 4, Sample.tcp(Sample.SYN), 0);
        check.due("connCount() of three", firewall.connCount(), 3);
        firewall.packet(1, 2, Sample.UDP, 0);
        firewall.packet(1 << 4, 2 << 4, Sample.UDP, 0);
        firewall.packet(7, 7, Sample.tcp(Sample.ACK), 0);
        firewall.packet(7, 7, Sample.UDP + 2, 0);
        check.due("connCount() of three still", firewall.connCount(), 3);
        Sample.send(firewall, 0, Sample.RST, 10);
        check.due("connCount() after an RST", firewall.connCount(), 2);
        Sample.send(firewall, 0, Sample.RST, 10);
        check.due("connCount() after an RST of none", firewall.connCount(), 2);
        firewall.tick(6);
        check.due("connCount() after the SYN's time", firewall.connCount(), 1);
        firewall.tick(24);
        check.due("connCount() after the UDP flow's time", firewall.connCount(), 0);
    }

    private static void asksOnly(Check check) {
        StatefulFirewall firewall = Sample.busy();
        View before = View.of(firewall);
        check.due("connCount()", firewall.connCount(), 2);
        check.due("connCount() again", firewall.connCount(), 2);
        check.unchanged("connCount()", firewall, before);
    }
}
