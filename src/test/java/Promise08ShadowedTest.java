/** Promise 8: shadowed. */
public final class Promise08ShadowedTest {
    public static void main(String[] args) {
        Check check = new Check();
        ruleZeroNeverIs(check);
        coveredByOne(check);
        coveredByManyTogether(check);
        oneTupleShort(check);
        laterRulesDoNotCount(check);
        defaultAndActionDoNotCount(check);
        wrongIndices(check);
        shadowedMeansRedundant(check);
        check.end();
    }

    private static StatefulFirewall with(int[]... rules) {
        return with(StatefulFirewall.DROP, rules);
    }

    private static StatefulFirewall with(int defaultAction, int[]... rules) {
        StatefulFirewall firewall = new StatefulFirewall(16, 4, defaultAction);
        for (int[] rule : rules) {
            firewall.addRule(rule[0], rule[1], rule[2], rule[3]);
        }
        return firewall;
    }

    private static void ruleZeroNeverIs(Check check) {
        int[] lengths = {0, 16, 36, 62, 79};
        for (int prefix : lengths) {
            for (int action : new int[] {0, 1, 2, 4, 5, 6}) {
                int[] rule = {prefix, prefix, Sample.range(15, 15), action};
                check.due("shadowed(0)", with(rule, rule).shadowed(0), false);
                check.due("shadowed(1)", with(rule, rule).shadowed(1), true);
            }
        }
    }

    private static void coveredByOne(Check check) {
        int[] wide = {24, 16, Sample.range(3, 9), Sample.ACCEPT_ANY};
        int[][] inside = {{24, 16, Sample.range(3, 9), 2}, {79, 71, Sample.range(3, 3), 4},
            {44, 36, Sample.range(9, 9), 1}, {56, 64, Sample.range(4, 8), 0}};
        for (int[] rule : inside) {
            check.due("shadowed(1) inside", with(wide, rule).shadowed(1), true);
        }
        int[][] outside = {{0, 16, Sample.range(3, 9), 2}, {71, 71, Sample.range(3, 3), 4},
            {44, 40, Sample.range(9, 9), 1}, {56, 64, Sample.range(2, 8), 0}, {56, 64, Sample.range(4, 10), 0},
            {24, 0, Sample.range(3, 9), 2}};
        for (int[] rule : outside) {
            check.due("shadowed(1) outside", with(wide, rule).shadowed(1), false);
        }
    }

    private static void coveredByManyTogether(Check check) {
        int[] all = {0, 0, 240, Sample.ACCEPT_ANY};
        int[] lowSource = {16, 0, 240, Sample.DROP_ANY};
        int[] highSource = {24, 0, 240, Sample.ACCEPT_ANY};
        int[] lowTarget = {0, 16, 240, Sample.ACCEPT_ANY};
        int[] highTarget = {0, 24, 240, Sample.DROP_ANY};
        int[] lowPorts = {0, 0, Sample.range(0, 6), Sample.DROP_ANY};
        int[] highPorts = {0, 0, Sample.range(7, 15), Sample.DROP_ANY};
        int[] tcp = {0, 0, 240, Sample.DROP_TCP};
        int[] udp = {0, 0, 240, Sample.ACCEPT_UDP};
        int[][][] halves = {{lowSource, highSource}, {lowTarget, highTarget}, {lowPorts, highPorts}, {tcp, udp}};
        for (int[][] pair : halves) {
            check.due("shadowed by both halves", with(pair[0], pair[1], all).shadowed(2), true);
            check.due("shadowed by the halves turned", with(pair[1], pair[0], all).shadowed(2), true);
            check.due("shadowed by the first half", with(pair[0], all).shadowed(1), false);
            check.due("shadowed by the second half", with(pair[1], all).shadowed(1), false);
            check.due("a half shadowed by the other", with(pair[0], pair[1], all).shadowed(1), false);
        }
        // The halves of different parts leave the corner that neither of them has.
        check.due("shadowed but for a corner", with(lowSource, lowTarget, all).shadowed(2), false);
        check.due("shadowed by three", with(lowSource, lowTarget, new int[] {24, 24, 240, 2}, all).shadowed(3), true);
    }

    private static void oneTupleShort(Check check) {
        for (int missing = 0; missing < 16; missing++) {
            StatefulFirewall firewall = Sample.dropAll();
            for (int src = 0; src < 16; src++) {
                if (src != missing) {
                    firewall.addRule(Sample.prefix(src, 4), Sample.ALL, Sample.ALL_PORTS, Sample.ACCEPT_ANY);
                }
            }
            firewall.addRule(Sample.ALL, Sample.ALL, Sample.ALL_PORTS, Sample.ACCEPT_ANY);
            check.due("shadowed(15) without source " + missing, firewall.shadowed(15), false);
        }
        int[][] cornerRules = {{72, 0, 240, 2}, {64, 0, 240, 2}};
        for (int[] rule : cornerRules) {
            check.due("shadowed by one source", with(rule, new int[] {rule[0], 0, 240, 6}).shadowed(1), true);
            check.due("shadowed by one source", with(rule, new int[] {0, 0, 240, 6}).shadowed(1), false);
        }
        cornerShort(check, new int[][] {{0, 0, 240, 0}, {0, 0, 224, 1}, {16, 0, 240, 1}, {40, 0, 240, 1},
            {60, 0, 240, 1}, {78, 0, 240, 1}, {0, 16, 240, 1}, {0, 40, 240, 1}, {0, 60, 240, 1}, {0, 78, 240, 1}},
            new int[] {79, 79, 255, 1});
        cornerShort(check, new int[][] {{0, 0, 240, 1}, {0, 0, 241, 0}, {24, 0, 240, 0}, {36, 0, 240, 0},
            {50, 0, 240, 0}, {65, 0, 240, 0}, {0, 24, 240, 0}, {0, 36, 240, 0}, {0, 50, 240, 0}, {0, 65, 240, 0}},
            new int[] {64, 64, 0, 0});
    }

    /** The rules cover all of the domain but its very first or very last tuple, which the corner is. */
    private static void cornerShort(Check check, int[][] rules, int[] corner) {
        StatefulFirewall firewall = with(rules);
        firewall.addRule(0, 0, 240, Sample.ACCEPT_ANY);
        check.due("shadowed but for a corner of the domain", firewall.shadowed(10), false);
        firewall.removeRule(10);
        firewall.addRule(corner[0], corner[1], corner[2], corner[3]);
        check.due("addRule", firewall.addRule(0, 0, 240, Sample.ACCEPT_ANY), 11);
        check.due("shadowed with the corner", firewall.shadowed(11), true);
        check.due("shadowed of the corner", firewall.shadowed(10), false);
    }

    private static void laterRulesDoNotCount(Check check) {
        int[] narrow = {70, 70, 68, 4};
        int[] wide = {0, 0, 240, 6};
        StatefulFirewall firewall = with(narrow, wide);
        check.due("shadowed(0) by a later rule", firewall.shadowed(0), false);
        check.due("shadowed(1) by a narrow rule", firewall.shadowed(1), false);
        StatefulFirewall three = with(new int[] {71, 0, 240, 6}, narrow, wide);
        check.due("shadowed(1) by a later rule", three.shadowed(1), false);
    }

    private static void defaultAndActionDoNotCount(Check check) {
        for (int action = 0; action < 2; action++) {
            int[] first = {16, 0, 240, 2 + 4 * action};
            int[] same = {32, 0, 240, 2 + 4 * action};
            int[] other = {32, 0, 240, 6 - 4 * action};
            int[] apart = {24, 0, 240, 2 + 4 * action};
            for (int byDefault = 0; byDefault < 2; byDefault++) {
                check.due("shadowed of the same action", with(byDefault, first, same).shadowed(1), true);
                check.due("shadowed of another action", with(byDefault, first, other).shadowed(1), true);
                check.due("shadowed of a rule apart", with(byDefault, first, apart).shadowed(1), false);
            }
        }
    }

    private static void wrongIndices(Check check) {
        int[] all = {0, 0, 240, 6};
        StatefulFirewall firewall = with(all, all, all);
        View before = View.of(firewall);
        for (int index : Sample.outside(2)) {
            check.due("shadowed(" + index + ")", firewall.shadowed(index), false);
        }
        check.due("shadowed(1)", firewall.shadowed(1), true);
        check.due("shadowed(2)", firewall.shadowed(2), true);
        check.unchanged("shadowed", firewall, before);
        firewall.removeRule(2);
        check.due("shadowed(2) after removal", firewall.shadowed(2), false);
        check.due("shadowed(0) of an empty list", Sample.acceptAll().shadowed(0), false);
        StatefulFirewall busy = Sample.busy();
        View busyBefore = View.of(busy);
        busy.shadowed(1);
        check.unchanged("shadowed", busy, busyBefore);
    }

    private static void shadowedMeansRedundant(Check check) {
        Numbers numbers = new Numbers(8);
        for (int run = 0; run < 40; run++) {
            RuleList list = new RuleList(numbers);
            StatefulFirewall firewall = list.firewall();
            for (int index = 0; index < list.count(); index++) {
                check.due("shadowed as the words say", firewall.shadowed(index), list.shadowed(index));
                if (firewall.shadowed(index)) {
                    check.due("redundant of a shadowed rule", firewall.redundant(index), true);
                    check.due("removal changes a decision", list.removalChanges(index), false);
                }
            }
        }
    }
}
