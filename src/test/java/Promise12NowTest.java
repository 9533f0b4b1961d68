/** Promise 12: now. */
public final class Promise12NowTest {
    public static void main(String[] args) {
        Check check = new Check();
        onlyTickMovesIt(check);
        sumsTheTicks(check);
        asksOnly(check);
        check.end();
    }

    private static void onlyTickMovesIt(Check check) {
        StatefulFirewall firewall = Sample.acceptAll();
        check.due("now() at the start", firewall.now(), 0);
        firewall.addRule(0, 0, 240, 6);
        firewall.addRule(1, 0, 240, 6);
        Sample.lead(firewall, StatefulFirewall.TIME_WAIT, 9, 249);
        firewall.packet(0, 0, 99, 0);
        firewall.shadowed(0);
        firewall.redundant(0);
        firewall.removeRule(0);
        firewall.tick(0);
        firewall.tick(101);
        firewall.tick(-1);
        check.due("now() without an accepted tick", firewall.now(), 0);
        firewall.tick(1);
        check.due("now() after tick(1)", firewall.now(), 1);
        firewall.tick(100);
        check.due("now() after tick(100)", firewall.now(), 101);
        firewall.tick(Sample.MAX);
        check.due("now() after a wrong tick", firewall.now(), 101);
    }

    private static void sumsTheTicks(Check check) {
        StatefulFirewall firewall = Sample.acceptAll();
        int sum = 0;
        for (int i = 0; i < 1000; i++) {
            int n = 1 + i * 37 % 100;
            firewall.tick(n);
            sum += n;
            check.due("now() after " + (i + 1) + " ticks", firewall.now(), sum);
        }
        while (sum <= Sample.MAX - 100) {
            firewall.tick(100);
            sum += 100;
        }
        check.due("now() near the end", firewall.now(), sum);
        firewall.tick(100);
        check.due("now() over the end", firewall.now(), sum + 100);
    }

    private static void asksOnly(Check check) {
        StatefulFirewall firewall = Sample.busy();
        View before = View.of(firewall);
        check.due("now()", firewall.now(), 5);
        check.due("now() again", firewall.now(), 5);
        check.unchanged("now()", firewall, before);
    }
}
