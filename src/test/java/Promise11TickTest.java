/** Promise 11: tick. */
public final class Promise11TickTest {
    private static final int BAD = StatefulFirewall.BAD;

    public static void main(String[] args) {
        Check check = new Check();
        takesOneToHundred(check);
        refusesTheRest(check);
        expiresOnTheDot(check);
        removesAllThatAreDue(check);
        leavesTheRest(check);
        wrapsAround(check);
        check.end();
    }

    private static void takesOneToHundred(Check check) {
        for (int n = 1; n <= 100; n++) {
            StatefulFirewall firewall = Sample.acceptAll();
            check.due("tick(" + n + ")", firewall.tick(n), 0);
            check.due("now() after tick(" + n + ")", firewall.now(), n);
        }
    }

    private static void refusesTheRest(Check check) {
        StatefulFirewall firewall = Sample.busy();
        View before = View.of(firewall);
        for (int n : Sample.outside(100)) {
            check.due("tick(" + n + ")", firewall.tick(n), BAD);
        }
        check.due("tick(0)", firewall.tick(0), BAD);
        check.unchanged("a wrong tick", firewall, before);
    }

    private static void expiresOnTheDot(Check check) {
        for (int state = 1; state <= 9; state++) {
            int timeout = Sample.timeout(state);
            int proto = Sample.protoOfState(state);
            for (int over = 0; over < 3; over++) {
                StatefulFirewall firewall = Sample.acceptAll();
                firewall.tick(7);
                Sample.leadAny(firewall, state);
                check.due("tick before the end of " + state, firewall.tick(timeout - 1), 0);
                check.due("state before its end", firewall.connState(Sample.ADDRS, Sample.PORTS, proto), state);
                check.due("time left before its end", firewall.connTimeLeft(Sample.ADDRS, Sample.PORTS, proto), 1);
                check.due("tick to the end of " + state, firewall.tick(1 + over), 1);
                check.due("connCount() at its end", firewall.connCount(), 0);
                check.due("state at its end", firewall.connState(Sample.ADDRS, Sample.PORTS, proto), 0);
            }
        }
    }

    private static void removesAllThatAreDue(Check check) {
        // Every pattern of early and late entries over eight slots, so that no order of removal matters.
        for (int pattern = 0; pattern < 256; pattern++) {
            StatefulFirewall firewall = Sample.acceptAll();
            int late = 0;
            for (int slot = 0; slot < 8; slot++) {
                firewall.packet(16 + slot, 32, Sample.UDP, 0);
                if ((pattern >> slot & 1) == 1) {
                    firewall.packet(1 + 16 * slot, 2, Sample.UDP, 0);
                    late++;
                }
            }
            check.due("tick(10) of pattern " + pattern, firewall.tick(10), 8 - late);
            check.due("connCount() of pattern " + pattern, firewall.connCount(), late);
            for (int slot = 0; slot < 8; slot++) {
                boolean kept = (pattern >> slot & 1) == 1;
                check.due("state of slot " + slot, firewall.connState(16 + slot, 32, Sample.UDP), kept ? 9 : 0);
                check.due("time of slot " + slot, firewall.connTimeLeft(16 + slot, 32, Sample.UDP), kept ? 20 : -2);
            }
        }
    }

    private static void leavesTheRest(Check check) {
        StatefulFirewall firewall = Sample.busy();
        firewall.packet(4 + 16 * 9, 6 + 16 * 1, Sample.tcp(Sample.SYN), 77);
        View before = View.of(firewall);
        check.due("tick(6)", firewall.tick(6), 1);
        check.rulesUnchanged("tick(6)", firewall, before);
        check.due("now()", firewall.now(), 11);
        check.due("connCount()", firewall.connCount(), 2);
        int state = firewall.connState(Sample.ADDRS, Sample.PORTS, Sample.TCP);
        check.due("state of the flow", state, StatefulFirewall.ESTABLISHED);
        check.due("time of the flow", firewall.connTimeLeft(Sample.ADDRS, Sample.PORTS, Sample.TCP), 32);
        check.due("next of the flow", firewall.connNextSeq(Sample.ADDRS, Sample.PORTS, Sample.TCP), 11);
        check.due("next of its replies", firewall.connNextSeq(Sample.REPLY_ADDRS, Sample.REPLY_PORTS, Sample.TCP), 250);
        check.due("time of the UDP flow", firewall.connTimeLeft(Sample.UDP_ADDRS, Sample.UDP_PORTS, Sample.UDP), 2);
        check.due("tick(2)", firewall.tick(2), 1);
        check.due("tick(29)", firewall.tick(29), 0);
        check.due("tick(1)", firewall.tick(1), 1);
        check.due("tick(100) of an empty table", firewall.tick(100), 0);
    }

    private static StatefulFirewall nearTheEnd(int before) {
        StatefulFirewall firewall = Sample.acceptAll();
        int target = Sample.MAX - before;
        for (int i = 0; i < target / 100; i++) {
            firewall.tick(100);
        }
        if (target % 100 != 0) {
            firewall.tick(target % 100);
        }
        return firewall;
    }

    private static void wrapsAround(Check check) {
        StatefulFirewall firewall = nearTheEnd(50);
        check.due("now() near the end", firewall.now(), Sample.MAX - 50);
        Sample.lead(firewall, StatefulFirewall.ESTABLISHED, 9, 249);
        check.due("tick(45)", firewall.tick(45), 1);
        check.due("now()", firewall.now(), Sample.MAX - 5);

        // An expiry past the greatest int is a small number, so the next tick finds it passed.
        firewall.packet(1, 2, Sample.UDP, 0);
        check.due("time left over the end", firewall.connTimeLeft(1, 2, Sample.UDP), 10);
        check.due("tick(1) with a wrapped expiry", firewall.tick(1), 1);

        // An expiry before the end is not passed by a clock that has wrapped.
        Sample.lead(firewall, StatefulFirewall.TIME_WAIT, 9, 249);
        check.due("tick(6) over the end", firewall.tick(6), 0);
        check.due("now() over the end", firewall.now(), Sample.MIN + 1);
        int left = firewall.connTimeLeft(Sample.ADDRS, Sample.PORTS, Sample.TCP);
        check.due("time left after the end", left, -2);
        check.due("connCount() after the end", firewall.connCount(), 1);
        check.due("ACK after the end", Sample.send(firewall, 0, Sample.ACK, 13), StatefulFirewall.V_PASS);
        check.due("time left afresh", firewall.connTimeLeft(Sample.ADDRS, Sample.PORTS, Sample.TCP), 4);
        check.due("tick(3) after the end", firewall.tick(3), 0);
        check.due("tick(1) after the end", firewall.tick(1), 1);
    }
}
