/** Every sentence of promise 1. */
public final class Sentences01ConstructionTest {
    private static final int BAD = StatefulFirewall.BAD;
    private static final int DROP = StatefulFirewall.DROP;
    private static final int ACCEPT = StatefulFirewall.ACCEPT;
    private static final int[] INTS = {Sample.MIN, Sample.MIN + 1, -65536, -17, -16, -5, -4, -1, 0, 1, 2, 3, 4, 5, 15,
        16, 17, 20, 255, 256, 65536, 1 << 30, Sample.MAX - 1, Sample.MAX};

    public static void main(String[] args) {
        Check check = new Check();
        acceptsAnyInt(check);
        ruleCapIsClamped(check);
        connCapIsClamped(check);
        belowTheLeastIsTheLeast(check);
        aboveTheGreatestIsTheGreatest(check);
        extremeIntsAreClampedToo(check);
        defaultActionIsClamped(check);
        negativeIsDropAndAboveOneIsAccept(check);
        startsEmpty(check);
        capacitiesAndDefaultStay(check);
        check.end();
    }

    private static void acceptsAnyInt(Check check) {
        check.sentence("StatefulFirewall(ruleCap, connCap, defaultAction) accepts any int for each argument. "
            + "It never fails.");
        for (int ruleCap : INTS) {
            for (int connCap : INTS) {
                for (int defaultAction : INTS) {
                    StatefulFirewall firewall = new StatefulFirewall(ruleCap, connCap, defaultAction);
                    String made = "(" + ruleCap + ", " + connCap + ", " + defaultAction + ")";
                    check.due("classify of " + made, firewall.classify(0, 0, 0), defaultAction > 0 ? ACCEPT : DROP);
                    holds(check, firewall, made, within(ruleCap), within(connCap));
                }
            }
        }
    }

    private static int within(int cap) {
        return Math.max(4, Math.min(16, cap));
    }

    /** The firewall, new until now, takes exactly so many rules and entries. */
    private static void holds(Check check, StatefulFirewall firewall, String made, int rules, int entries) {
        for (int i = 0; i < rules; i++) {
            check.due("addRule number " + i + " of " + made, firewall.addRule(0, 0, 240, Sample.ACCEPT_ANY), i);
        }
        check.due("addRule beyond " + rules + " of " + made, firewall.addRule(0, 0, 240, Sample.ACCEPT_ANY), BAD);
        check.due("ruleCount() of " + made, firewall.ruleCount(), rules);
        for (int i = 0; i < entries; i++) {
            check.due("flow " + i + " of " + made, new Flow(i).udp(firewall, 0), StatefulFirewall.V_NEW);
        }
        check.due("flow beyond " + entries + " of " + made, firewall.packet(0, 1, 1, 0), StatefulFirewall.V_FULL);
        check.due("connCount() of " + made, firewall.connCount(), entries);
    }

    private static void ruleCapHolds(Check check, int given, int rules) {
        holds(check, new StatefulFirewall(given, 9, DROP), "ruleCap " + given, rules, 9);
    }

    private static void connCapHolds(Check check, int given, int entries) {
        holds(check, new StatefulFirewall(9, given, DROP), "connCap " + given, 9, entries);
    }

    private static void ruleCapIsClamped(Check check) {
        check.sentence("ruleCap is clamped into 4..16");
        ruleCapHolds(check, 3, 4);
        for (int cap = 4; cap <= 16; cap++) {
            ruleCapHolds(check, cap, cap);
        }
        ruleCapHolds(check, 17, 16);
    }

    private static void connCapIsClamped(Check check) {
        check.sentence("connCap is clamped into 4..16");
        connCapHolds(check, 3, 4);
        for (int cap = 4; cap <= 16; cap++) {
            connCapHolds(check, cap, cap);
        }
        connCapHolds(check, 17, 16);
    }

    private static void belowTheLeastIsTheLeast(Check check) {
        check.sentence("A value below the least becomes the least");
        for (int given = -40; given <= 4; given++) {
            ruleCapHolds(check, given, 4);
            connCapHolds(check, given, 4);
        }
    }

    private static void aboveTheGreatestIsTheGreatest(Check check) {
        check.sentence("a value above the greatest becomes the greatest");
        for (int given = 16; given <= 60; given++) {
            ruleCapHolds(check, given, 16);
            connCapHolds(check, given, 16);
        }
    }

    private static void extremeIntsAreClampedToo(Check check) {
        check.sentence("This holds for every int, including Integer.MIN_VALUE and Integer.MAX_VALUE.");
        ruleCapHolds(check, Integer.MIN_VALUE, 4);
        connCapHolds(check, Integer.MIN_VALUE, 4);
        ruleCapHolds(check, Integer.MAX_VALUE, 16);
        connCapHolds(check, Integer.MAX_VALUE, 16);
        holds(check, new StatefulFirewall(Sample.MIN, Sample.MAX, Sample.MAX), "the extremes", 4, 16);
        holds(check, new StatefulFirewall(Sample.MAX, Sample.MIN, Sample.MIN), "the extremes turned", 16, 4);
    }

    private static void defaultHolds(Check check, int given, int action) {
        StatefulFirewall firewall = new StatefulFirewall(4, 4, given);
        check.due("classify by default " + given, firewall.classify(0, 0, 0), action);
        check.due("classify by default " + given, firewall.classify(255, 255, 1), action);
        int verdict = action == DROP ? StatefulFirewall.V_DROP : StatefulFirewall.V_NEW;
        check.due("packet by default " + given, firewall.packet(0, 0, Sample.UDP, 0), verdict);
    }

    private static void defaultActionIsClamped(Check check) {
        check.sentence("defaultAction is clamped into 0..1 in the same way.");
        defaultHolds(check, -1, DROP);
        defaultHolds(check, 0, DROP);
        defaultHolds(check, 1, ACCEPT);
        defaultHolds(check, 2, ACCEPT);
    }

    private static void negativeIsDropAndAboveOneIsAccept(Check check) {
        check.sentence("Negative values become DROP, and values above 1 become ACCEPT.");
        for (int given : INTS) {
            defaultHolds(check, given, given < 1 ? DROP : ACCEPT);
        }
    }

    private static void startsEmpty(Check check) {
        check.sentence("The firewall starts with no rules, no entries and now = 0. "
            + "Thus ruleCount() = 0, connCount() = 0 and now() = 0.");
        for (int given : INTS) {
            StatefulFirewall firewall = new StatefulFirewall(given, given, given);
            check.due("ruleCount()", firewall.ruleCount(), 0);
            check.due("connCount()", firewall.connCount(), 0);
            check.due("now()", firewall.now(), 0);
            for (int index = 0; index < 16; index++) {
                check.due("ruleInfo(" + index + ", 0)", firewall.ruleInfo(index, 0), BAD);
            }
        }
        StatefulFirewall firewall = Sample.dropAll();
        for (int header = 0; header < Sample.HEADERS; header++) {
            int addrs = Sample.addrsOf(header);
            int ports = Sample.portsOf(header);
            for (HeaderCall call : HeaderCall.values()) {
                int proto = Sample.protoOf(header);
                check.due(call.told(addrs, ports, proto), call.ask(firewall, addrs, ports, proto), call.answerOfNew);
            }
        }
    }

    private static void capacitiesAndDefaultStay(Check check) {
        check.sentence("The clamped capacities and the default action never change afterwards.");
        for (int given = 3; given <= 17; given++) {
            for (int action = 0; action < 2; action++) {
                StatefulFirewall firewall = new StatefulFirewall(given, 20 - given, action);
                for (int round = 0; round < 3; round++) {
                    holds(check, firewall, "round " + round, within(given), within(20 - given));
                    wearOut(firewall);
                    check.due("classify in round " + round, firewall.classify(0, 0, 0), action);
                }
            }
        }
    }

    /** Refused calls, then everything that is held goes. */
    private static void wearOut(StatefulFirewall firewall) {
        firewall.addRule(1, 1, 1, 3);
        firewall.removeRule(16);
        firewall.packet(0, 0, Sample.tcp(Sample.SYN), 0);
        firewall.packet(256, 0, 1, 0);
        firewall.tick(0);
        firewall.tick(100);
        for (int i = 0; i < 16; i++) {
            firewall.removeRule(firewall.ruleCount() - 1);
        }
    }
}
