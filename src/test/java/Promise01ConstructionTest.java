/** Promise 1: construction and the starting state. */
public final class Promise01ConstructionTest {
    private static final int[] GIVEN = {Sample.MIN, Sample.MIN + 1, -17, -1, 0, 1, 3, 4, 5, 9, 15, 16, 17,
        100, Sample.MAX - 1, Sample.MAX};
    private static final int[] CAPACITY = {4, 4, 4, 4, 4, 4, 4, 4, 5, 9, 15, 16, 16, 16, 16, 16};
    private static final int[] ACTION = {0, 0, 0, 0, 0, 1, 1, 1, 1, 1, 1, 1, 1, 1, 1, 1};

    public static void main(String[] args) {
        Check check = new Check();
        startsEmpty(check);
        clampsRuleCap(check);
        clampsConnCap(check);
        clampsDefaultAction(check);
        capacitiesAreApart(check);
        check.end();
    }

    private static void startsEmpty(Check check) {
        for (int given : GIVEN) {
            StatefulFirewall firewall = new StatefulFirewall(given, given, given);
            check.due("ruleCount() at the start", firewall.ruleCount(), 0);
            check.due("connCount() at the start", firewall.connCount(), 0);
            check.due("now() at the start", firewall.now(), 0);
            check.due("connState at the start", firewall.connState(0, 0, 0), StatefulFirewall.NONE);
            check.due("connState at the start", firewall.connState(0, 0, 1), StatefulFirewall.NONE);
            check.due("ruleInfo at the start", firewall.ruleInfo(0, 0), StatefulFirewall.BAD);
        }
    }

    private static void clampsRuleCap(Check check) {
        for (int i = 0; i < GIVEN.length; i++) {
            StatefulFirewall firewall = new StatefulFirewall(GIVEN[i], 7, 1);
            check.due("rules taken with ruleCap " + GIVEN[i], rulesTaken(firewall), CAPACITY[i]);
            firewall.removeRule(0);
            check.due("rules taken again with ruleCap " + GIVEN[i], rulesTaken(firewall), 1);
            check.due("ruleCount() of a full list", firewall.ruleCount(), CAPACITY[i]);
        }
    }

    private static void clampsConnCap(Check check) {
        for (int i = 0; i < GIVEN.length; i++) {
            StatefulFirewall firewall = new StatefulFirewall(7, GIVEN[i], 1);
            check.due("entries taken with connCap " + GIVEN[i], entriesTaken(firewall), CAPACITY[i]);
            firewall.tick(100);
            check.due("entries taken again with connCap " + GIVEN[i], entriesTaken(firewall), CAPACITY[i]);
            check.due("connCount() of a full table", firewall.connCount(), CAPACITY[i]);
        }
    }

    private static void clampsDefaultAction(Check check) {
        for (int i = 0; i < GIVEN.length; i++) {
            StatefulFirewall firewall = new StatefulFirewall(7, 7, GIVEN[i]);
            check.due("classify with default " + GIVEN[i], firewall.classify(18, 52, 0), ACTION[i]);
            rulesTaken(firewall);
            entriesTaken(firewall);
            firewall.tick(5);
            for (int left = 6; left > 0; left--) {
                check.due("removeRule(0)", firewall.removeRule(0), left);
                check.due("classify with rules left", firewall.classify(18, 52, 1), 1);
            }
            check.due("removeRule(0) of the last", firewall.removeRule(0), 0);
            check.due("classify with default " + GIVEN[i] + " later", firewall.classify(18, 52, 1), ACTION[i]);
        }
    }

    private static void capacitiesAreApart(Check check) {
        StatefulFirewall firewall = new StatefulFirewall(5, 11, 0);
        check.due("rules taken", rulesTaken(firewall), 5);
        check.due("entries taken", entriesTaken(firewall), 11);
        StatefulFirewall other = new StatefulFirewall(11, 5, 0);
        check.due("rules taken", rulesTaken(other), 11);
        check.due("entries taken", entriesTaken(other), 5);
    }

    private static int rulesTaken(StatefulFirewall firewall) {
        int taken = 0;
        for (int i = 0; i < 40; i++) {
            if (firewall.addRule(Sample.ALL, Sample.ALL, Sample.ALL_PORTS, Sample.ACCEPT_ANY) != StatefulFirewall.BAD) {
                taken++;
            }
        }
        return taken;
    }

    private static int entriesTaken(StatefulFirewall firewall) {
        int taken = 0;
        for (int i = 0; i < 40; i++) {
            if (firewall.packet(16 + i % 16, 32 + i / 16, Sample.UDP, 0) == StatefulFirewall.V_NEW) {
                taken++;
            }
        }
        return taken;
    }
}
