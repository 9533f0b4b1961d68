/** Every sentence of promise 13. */
public final class Sentences13ConnCountTest {
    public static void main(String[] args) {
        Check check = new Check();
        countIsWithinTheCapacity(check);
        resetsTakeItDownToZero(check);
        asksOnly(check);
        check.end();
    }

    private static void countIsWithinTheCapacity(Check check) {
        check.sentence("connCount() answers the number of entries in the table, which is always in 0..connCap");
        for (int cap = 4; cap <= 16; cap++) {
            StatefulFirewall firewall = new StatefulFirewall(4, cap, StatefulFirewall.ACCEPT);
            for (int round = 0; round < 3; round++) {
                check.due("connCount() of none", firewall.connCount(), 0);
                for (int i = 0; i < 20; i++) {
                    firewall.packet(i % 16 + 16 * 9, i / 16, i % 2 == 0 ? Sample.UDP : Sample.tcp(Sample.SYN), 0);
                    check.due("connCount() after " + (i + 1), firewall.connCount(), Math.min(i + 1, cap));
                }
                check.due("tick(100)", firewall.tick(100), cap);
            }
        }
    }

    private static void resetsTakeItDownToZero(Check check) {
        check.sentence("connCount() answers the number of entries in the table");
        StatefulFirewall firewall = Sample.acceptAll();
        for (int source = 0; source < 16; source++) {
            new Flow(source).lead(firewall, 1 + source % 7);
        }
        for (int left = 15; left >= 0; left--) {
            // Sources 0, 5, 10, .. so that entries go from every place of the table.
            int source = (15 - left) * 5 % 16;
            int seq = Sample.nextOrigin(1 + source % 7, 9);
            check.due("connCount()", firewall.connCount(), left + 1);
            new Flow(source).tcp(firewall, 0, Sample.RST, seq + 32);
            check.due("connCount() after a refused RST", firewall.connCount(), left + 1);
            new Flow(source).tcp(firewall, 0, Sample.RST, seq);
            check.due("connCount() after an RST", firewall.connCount(), left);
            new Flow(source).tcp(firewall, 0, Sample.RST, seq);
            check.due("connCount() after an RST of none", firewall.connCount(), left);
        }
    }

    private static void asksOnly(Check check) {
        check.sentence("The call changes nothing.");
        check.changesNothing("connCount()", Places::newAccepting, StatefulFirewall::connCount, 0);
        check.changesNothing("connCount()", Sample::busy, StatefulFirewall::connCount, 2);
        check.changesNothing("connCount()", Places::fullOfFour, StatefulFirewall::connCount, 4);
        check.changesNothing("connCount()", Places::fullOfSixteen, StatefulFirewall::connCount, 16);
    }
}
