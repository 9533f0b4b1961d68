/** Promise 9: redundant. */
public final class Promise09RedundantTest {
    public static void main(String[] args) {
        Check check = new Check();
        againstTheDefault(check);
        againstLaterRules(check);
        againstEarlierRules(check);
        onlyOneTupleDecided(check);
        wrongIndices(check);
        asTheWordsSay(check);
        check.end();
    }

    private static StatefulFirewall with(int defaultAction, int[]... rules) {
        StatefulFirewall firewall = new StatefulFirewall(16, 4, defaultAction);
        for (int[] rule : rules) {
            firewall.addRule(rule[0], rule[1], rule[2], rule[3]);
        }
        return firewall;
    }

    private static void againstTheDefault(Check check) {
        int[] drop = {64, 64, 17, Sample.DROP_TCP};
        int[] accept = {64, 64, 17, Sample.ACCEPT_TCP};
        check.due("redundant(0), DROP by default DROP", with(0, drop).redundant(0), true);
        check.due("redundant(0), DROP by default ACCEPT", with(1, drop).redundant(0), false);
        check.due("redundant(0), ACCEPT by default DROP", with(0, accept).redundant(0), false);
        check.due("redundant(0), ACCEPT by default ACCEPT", with(1, accept).redundant(0), true);
        check.due("shadowed(0), DROP by default DROP", with(0, drop).shadowed(0), false);
    }

    private static void againstLaterRules(Check check) {
        int[] narrow = {40, 0, 240, Sample.ACCEPT_ANY};
        int[] wideSame = {24, 0, 240, Sample.ACCEPT_ANY};
        int[] wideOther = {24, 0, 240, Sample.DROP_ANY};
        int[] all = {0, 0, 240, Sample.ACCEPT_ANY};
        check.due("redundant before the same", with(0, narrow, wideSame).redundant(0), true);
        check.due("redundant before another", with(0, narrow, wideOther).redundant(0), false);
        check.due("redundant before another and the same", with(0, narrow, wideOther, all).redundant(0), false);
        check.due("redundant before the same and another", with(0, narrow, all, wideOther).redundant(0), true);
        check.due("redundant of what the narrow one leaves", with(0, narrow, wideSame).redundant(1), false);
        check.due("redundant of the other", with(0, narrow, wideOther).redundant(1), true);
        check.due("redundant by default ACCEPT", with(1, narrow, wideOther).redundant(1), false);
        // What the later rules leave open falls to the default.
        int[] tcp = {40, 0, 240, Sample.ACCEPT_TCP};
        check.due("redundant by a rule and the default", with(1, narrow, tcp).redundant(0), true);
        check.due("redundant by a rule alone", with(0, narrow, tcp).redundant(0), false);
    }

    private static void againstEarlierRules(Check check) {
        int[] drop = {16, 0, 240, Sample.DROP_ANY};
        int[] accept = {16, 0, 240, Sample.ACCEPT_ANY};
        int[] all = {0, 0, 240, Sample.ACCEPT_ANY};
        check.due("redundant(1) behind the same", with(0, accept, accept).redundant(1), true);
        check.due("redundant(0) before the same", with(0, accept, accept).redundant(0), true);
        check.due("redundant(1) behind another", with(1, accept, drop).redundant(1), true);
        check.due("redundant(0) before another", with(1, accept, drop).redundant(0), false);
        check.due("redundant(1) behind a half", with(0, drop, all).redundant(1), false);
        check.due("redundant(1) behind a half, by default", with(1, drop, all).redundant(1), true);
        int[] tcp = {0, 0, 240, Sample.DROP_TCP};
        int[] udp = {0, 0, 240, Sample.DROP_UDP};
        check.due("redundant(2) behind both protocols", with(0, tcp, udp, all).redundant(2), true);
        check.due("redundant(1) behind one protocol", with(0, tcp, all).redundant(1), false);
    }

    private static void onlyOneTupleDecided(Check check) {
        // The one tuple that the rule decides lies in each corner and in the middle of the domain.
        int[] addresses = {0, 7, 15};
        for (int src : addresses) {
            for (int dst : addresses) {
                for (int port : addresses) {
                    for (int proto = 0; proto < 2; proto++) {
                        int[] rule = {64 + src, 64 + dst, 17 * port, proto + 4};
                        check.due("redundant of one tuple, DROP", with(0, rule).redundant(0), false);
                        check.due("redundant of one tuple, ACCEPT", with(1, rule).redundant(0), true);
                    }
                }
            }
        }
    }

    private static void wrongIndices(Check check) {
        int[] all = {0, 0, 240, 6};
        StatefulFirewall firewall = with(1, all, all, all);
        View before = View.of(firewall);
        for (int index : Sample.outside(2)) {
            check.due("redundant(" + index + ")", firewall.redundant(index), false);
        }
        for (int index = 0; index < 3; index++) {
            check.due("redundant(" + index + ")", firewall.redundant(index), true);
        }
        check.unchanged("redundant", firewall, before);
        firewall.removeRule(2);
        check.due("redundant(2) after removal", firewall.redundant(2), false);
        check.due("redundant(0) of an empty list", Sample.acceptAll().redundant(0), false);
        StatefulFirewall busy = Sample.busy();
        View busyBefore = View.of(busy);
        busy.redundant(1);
        check.unchanged("redundant", busy, busyBefore);
    }

    private static void asTheWordsSay(Check check) {
        Numbers numbers = new Numbers(9);
        for (int run = 0; run < 40; run++) {
            RuleList list = new RuleList(numbers);
            StatefulFirewall firewall = list.firewall();
            for (int index = 0; index < list.count(); index++) {
                check.due("redundant as the words say", firewall.redundant(index), !list.removalChanges(index));
            }
        }
    }
}
