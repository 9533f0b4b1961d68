/** Every sentence of "Terms" under "Rules" and "Decision". */
public final class SentencesTermsRulesTest {
    private static final int BAD = StatefulFirewall.BAD;
    private static final int NO_MATCH = StatefulFirewall.NO_MATCH;

    public static void main(String[] args) {
        Check check = new Check();
        listHoldsUpToTheCapacity(check);
        listIsIndexedInOrder(check);
        rulesAreStoredAsGiven(check);
        prefixIsWithin79(check);
        prefixLengthIsWithinFour(check);
        freeBitsAreZero(check);
        prefixMatchesItsAddresses(check);
        lengthZeroMatchesAll(check);
        targetPrefixIsMatchedAgainstTarget(check);
        portRangeIsWithin255(check);
        lowIsNotAboveHigh(check);
        portRangeMatchesBothEnds(check);
        protoActionIsWithinSeven(check);
        protocolThreeIsInvalid(check);
        actionIsDropOrAccept(check);
        anyMatchesBothProtocols(check);
        allFourPartsMatch(check);
        lowestIndexDecides(check);
        defaultDecidesWithoutARule(check);
        check.end();
    }

    private static int add(int src, int dst, int range, int action) {
        return Sample.dropAll().addRule(src, dst, range, action);
    }

    private static StatefulFirewall with(int src, int dst, int range, int action) {
        StatefulFirewall firewall = Sample.dropAll();
        firewall.addRule(src, dst, range, action);
        return firewall;
    }

    private static void listHoldsUpToTheCapacity(Check check) {
        check.sentence("The list holds 0..ruleCap rules");
        for (int cap = 4; cap <= 16; cap++) {
            StatefulFirewall firewall = new StatefulFirewall(cap, 4, 0);
            check.due("ruleCount() of none", firewall.ruleCount(), 0);
            for (int i = 0; i < cap; i++) {
                check.due("addRule number " + i + " of " + cap, firewall.addRule(0, 0, 240, 6), i);
            }
            check.due("addRule beyond " + cap, firewall.addRule(0, 0, 240, 6), BAD);
            check.due("ruleCount() of all", firewall.ruleCount(), cap);
        }
    }

    private static void listIsIndexedInOrder(Check check) {
        check.sentence("indexed 0..count-1 in list order");
        for (int count = 0; count <= 16; count++) {
            StatefulFirewall firewall = Sample.dropAll();
            for (int i = 0; i < count; i++) {
                firewall.addRule(Sample.prefix(i, 4), Sample.ALL, Sample.ALL_PORTS, Sample.ACCEPT_ANY);
            }
            check.due("ruleInfo(-1, 0) of " + count, firewall.ruleInfo(-1, 0), BAD);
            for (int i = 0; i < count; i++) {
                check.due("ruleInfo(" + i + ", 0) of " + count, firewall.ruleInfo(i, 0), Sample.prefix(i, 4));
            }
            check.due("ruleInfo(" + count + ", 0) of " + count, firewall.ruleInfo(count, 0), BAD);
        }
    }

    private static void rulesAreStoredAsGiven(Check check) {
        check.sentence("A rule is four ints, stored exactly as given");
        int[][] rules = {{0, 79, 0, 6}, {79, 0, 255, 0}, {Sample.prefix(8, 1), Sample.prefix(0, 4), 240, 5},
            {Sample.prefix(0, 1), Sample.prefix(14, 3), 17, 2}};
        StatefulFirewall firewall = new StatefulFirewall(4, 4, 0);
        for (int[] rule : rules) {
            firewall.addRule(rule[0], rule[1], rule[2], rule[3]);
        }
        for (int index = 0; index < 4; index++) {
            for (int part = 0; part < 4; part++) {
                check.due("ruleInfo(" + index + ", " + part + ")", firewall.ruleInfo(index, part), rules[index][part]);
            }
        }
    }

    private static void prefixIsWithin79(Check check) {
        check.sentence("srcPrefix = a + 16*len, valid 0..79");
        for (int side = 0; side < 2; side++) {
            addsPrefix(check, side, -1, BAD);
            addsPrefix(check, side, 0, 0);
            addsPrefix(check, side, 79, 0);
            addsPrefix(check, side, 80, BAD);
            for (int far : Sample.outside(79)) {
                addsPrefix(check, side, far, BAD);
            }
        }
    }

    /** The prefix stands for the source on side 0 and for the target on side 1. */
    private static void addsPrefix(Check check, int side, int prefix, int want) {
        int got = side == 0 ? add(prefix, 0, 0, 0) : add(0, prefix, 0, 0);
        check.due("addRule with prefix " + prefix + " on side " + side, got, want);
    }

    private static void prefixLengthIsWithinFour(Check check) {
        check.sentence("where len = srcPrefix/16 (0..4) and a = srcPrefix%16");
        for (int side = 0; side < 2; side++) {
            for (int length = 0; length <= 4; length++) {
                addsPrefix(check, side, Sample.prefix(0, length), 0);
            }
            addsPrefix(check, side, Sample.prefix(0, 5), BAD);
            addsPrefix(check, side, Sample.prefix(15, 4), 0);
            addsPrefix(check, side, Sample.prefix(15, 5), BAD);
            addsPrefix(check, side, Sample.prefix(0, -1), BAD);
        }
    }

    private static void freeBitsAreZero(Check check) {
        check.sentence("It is valid only if a % (1 << (4-len)) == 0, that is, the low 4-len bits of a are zero.");
        // The addresses that may stand before each length, as bits of a number.
        int[] valid = {0x0001, 0x0101, 0x1111, 0x5555, 0xffff};
        for (int side = 0; side < 2; side++) {
            for (int length = 0; length <= 4; length++) {
                for (int address = 0; address < 16; address++) {
                    boolean fits = (valid[length] >> address & 1) == 1;
                    addsPrefix(check, side, Sample.prefix(address, length), fits ? 0 : BAD);
                }
            }
        }
    }

    private static void prefixMatchesItsAddresses(Check check) {
        check.sentence("It matches address x iff (x >> (4-len)) == (a >> (4-len)).");
        for (int length = 0; length <= 4; length++) {
            int size = 16 >> length;
            for (int first = 0; first < 16; first += size) {
                StatefulFirewall firewall = with(Sample.prefix(first, length), 0, 240, 6);
                int last = first + size - 1;
                matchesSource(check, firewall, first, 0);
                matchesSource(check, firewall, last, 0);
                if (first > 0) {
                    matchesSource(check, firewall, first - 1, NO_MATCH);
                }
                if (last < 15) {
                    matchesSource(check, firewall, last + 1, NO_MATCH);
                }
            }
        }
    }

    private static void matchesSource(Check check, StatefulFirewall firewall, int source, int want) {
        String call = "matchingRule of source " + source + " by prefix " + firewall.ruleInfo(0, 0);
        check.due(call, firewall.matchingRule(source, 0, 0), want);
        check.due(call, firewall.matchingRule(source + 16 * 15, 255, 1), want);
    }

    private static void lengthZeroMatchesAll(Check check) {
        check.sentence("A len of 0 matches all addresses.");
        StatefulFirewall all = with(0, 0, 240, 6);
        StatefulFirewall lowSources = with(Sample.prefix(0, 1), 0, 240, 6);
        StatefulFirewall lowTargets = with(0, Sample.prefix(0, 1), 240, 6);
        for (int addrs = 0; addrs < 256; addrs++) {
            check.due("matchingRule(" + addrs + ") by len 0", all.matchingRule(addrs, 0, 0), 0);
            int source = (addrs & 15) < 8 ? 0 : NO_MATCH;
            int target = addrs < 128 ? 0 : NO_MATCH;
            check.due("matchingRule(" + addrs + ") by a source of len 1", lowSources.matchingRule(addrs, 0, 0), source);
            check.due("matchingRule(" + addrs + ") by a target of len 1", lowTargets.matchingRule(addrs, 0, 0), target);
        }
    }

    private static void targetPrefixIsMatchedAgainstTarget(Check check) {
        check.sentence("dstPrefix uses the same encoding and is matched against dst.");
        for (int length = 0; length <= 4; length++) {
            int size = 16 >> length;
            for (int first = 0; first < 16; first += size) {
                StatefulFirewall firewall = with(0, Sample.prefix(first, length), 240, 6);
                for (int target = 0; target < 16; target++) {
                    int want = target >= first && target < first + size ? 0 : NO_MATCH;
                    String call = "matchingRule of target " + target + " by prefix " + firewall.ruleInfo(0, 1);
                    check.due(call, firewall.matchingRule(16 * target, 0, 0), want);
                    check.due(call, firewall.matchingRule(15 + 16 * target, 255, 1), want);
                }
            }
        }
    }

    private static void portRangeIsWithin255(Check check) {
        check.sentence("portRange = lo + 16*hi, valid 0..255");
        check.due("addRule with ports -1", add(0, 0, -1, 0), BAD);
        check.due("addRule with ports 0", add(0, 0, 0, 0), 0);
        check.due("addRule with ports 255", add(0, 0, 255, 0), 0);
        check.due("addRule with ports 256", add(0, 0, 256, 0), BAD);
        for (int far : Sample.outside(255)) {
            check.due("addRule with ports " + far, add(0, 0, far, 0), BAD);
        }
    }

    private static void lowIsNotAboveHigh(Check check) {
        check.sentence("where lo = portRange%16, hi = portRange/16, and lo <= hi");
        for (int high = 0; high < 16; high++) {
            check.due("addRule of " + high + " to itself", add(0, 0, Sample.range(high, high), 0), 0);
            if (high < 15) {
                check.due("addRule of one above " + high, add(0, 0, Sample.range(high + 1, high), 0), BAD);
                check.due("addRule of 15 to " + high, add(0, 0, Sample.range(15, high), 0), BAD);
            }
            check.due("addRule of 0 to " + high, add(0, 0, Sample.range(0, high), 0), 0);
        }
    }

    private static void portRangeMatchesBothEnds(Check check) {
        check.sentence("It matches dport p iff lo <= p <= hi.");
        for (int low = 0; low < 16; low++) {
            for (int high = low; high < 16; high++) {
                StatefulFirewall firewall = with(0, 0, Sample.range(low, high), 6);
                matchesPort(check, firewall, low, 0);
                matchesPort(check, firewall, high, 0);
                if (low > 0) {
                    matchesPort(check, firewall, low - 1, NO_MATCH);
                }
                if (high < 15) {
                    matchesPort(check, firewall, high + 1, NO_MATCH);
                }
            }
        }
    }

    private static void matchesPort(Check check, StatefulFirewall firewall, int dport, int want) {
        String call = "matchingRule to port " + dport + " by range " + firewall.ruleInfo(0, 2);
        check.due(call, firewall.matchingRule(0, 16 * dport, 0), want);
        check.due(call, firewall.matchingRule(255, 15 + 16 * dport, 1), want);
    }

    private static void protoActionIsWithinSeven(Check check) {
        check.sentence("protoAction = p + 4*act, valid 0..7");
        check.due("addRule with protoAction -1", add(0, 0, 0, -1), BAD);
        check.due("addRule with protoAction -2", add(0, 0, 0, -2), BAD);
        check.due("addRule with protoAction 0", add(0, 0, 0, 0), 0);
        check.due("addRule with protoAction 6", add(0, 0, 0, 6), 0);
        check.due("addRule with protoAction 8", add(0, 0, 0, 8), BAD);
        check.due("addRule with protoAction 10", add(0, 0, 0, 10), BAD);
        for (int far : Sample.outside(7)) {
            check.due("addRule with protoAction " + far, add(0, 0, 0, far), BAD);
        }
    }

    private static void protocolThreeIsInvalid(Check check) {
        check.sentence("where p = protoAction%4 is in {TCP, UDP, ANY} (p == 3 is invalid)");
        check.due("addRule with protocol 2 and DROP", add(0, 0, 0, 2), 0);
        check.due("addRule with protocol 3 and DROP", add(0, 0, 0, 3), BAD);
        check.due("addRule with protocol 0 and ACCEPT", add(0, 0, 0, 4), 0);
        check.due("addRule with protocol 2 and ACCEPT", add(0, 0, 0, 6), 0);
        check.due("addRule with protocol 3 and ACCEPT", add(0, 0, 0, 7), BAD);
    }

    private static void actionIsDropOrAccept(Check check) {
        check.sentence("act = protoAction/4 is in {DROP, ACCEPT}");
        for (int protocol = 0; protocol <= 2; protocol++) {
            for (int byDefault = 0; byDefault < 2; byDefault++) {
                StatefulFirewall dropping = new StatefulFirewall(4, 4, byDefault);
                dropping.addRule(0, 0, 240, protocol);
                StatefulFirewall accepting = new StatefulFirewall(4, 4, byDefault);
                accepting.addRule(0, 0, 240, protocol + 4);
                check.due("classify by DROP", dropping.classify(0, 0, protocol & 1), StatefulFirewall.DROP);
                check.due("classify by ACCEPT", accepting.classify(0, 0, protocol & 1), StatefulFirewall.ACCEPT);
            }
            check.due("addRule with action 2", add(0, 0, 0, protocol + 8), BAD);
        }
    }

    private static void anyMatchesBothProtocols(Check check) {
        check.sentence("ANY matches both protocols.");
        for (int action = 0; action <= 4; action += 4) {
            for (int protocol = 0; protocol <= 2; protocol++) {
                StatefulFirewall firewall = with(0, 0, 240, protocol + action);
                int tcp = protocol == StatefulFirewall.UDP ? NO_MATCH : 0;
                int udp = protocol == StatefulFirewall.TCP ? NO_MATCH : 0;
                check.due("matchingRule of TCP by " + protocol, firewall.matchingRule(0, 0, 0), tcp);
                check.due("matchingRule of UDP by " + protocol, firewall.matchingRule(0, 0, 1), udp);
            }
        }
    }

    private static void allFourPartsMatch(Check check) {
        check.sentence("A rule matches a header iff all four parts match.");
        // Sources 4..7, targets 8..11, ports 6..9, UDP: each part on its first and last value and one beside it.
        StatefulFirewall firewall = with(Sample.prefix(4, 2), Sample.prefix(8, 2), Sample.range(6, 9), 5);
        for (int number = 0; number < 128; number++) {
            int src = 3 + new int[] {0, 1, 4, 5}[number & 3];
            int dst = 7 + new int[] {0, 1, 4, 5}[number >> 2 & 3];
            int dport = 5 + new int[] {0, 1, 4, 5}[number >> 4 & 3];
            int proto = number >> 6;
            boolean inside = src >= 4 && src <= 7 && dst >= 8 && dst <= 11 && dport >= 6 && dport <= 9 && proto == 1;
            String call = "matchingRule of " + src + " to " + dst + ":" + dport + " over " + proto;
            check.due(call, firewall.matchingRule(src + 16 * dst, 16 * dport, proto), inside ? 0 : NO_MATCH);
        }
    }

    private static void lowestIndexDecides(Check check) {
        check.sentence("The DECISION for a header is the act of the lowest-index matching rule.");
        for (int action = 0; action < 2; action++) {
            StatefulFirewall firewall = new StatefulFirewall(16, 4, action);
            // The first rule and the last one go against the default and against all the rules between.
            firewall.addRule(Sample.prefix(8, 1), 0, 240, 2 + 4 * (1 - action));
            for (int i = 1; i < 15; i++) {
                firewall.addRule(Sample.prefix(8, 1), 0, 240, 2 + 4 * action);
            }
            firewall.addRule(0, 0, 240, 2 + 4 * (1 - action));
            check.due("classify by the first", firewall.classify(8, 0, 0), 1 - action);
            check.due("classify by the last", firewall.classify(7, 0, 0), 1 - action);
            firewall.removeRule(0);
            check.due("classify by the second", firewall.classify(8, 0, 0), action);
            check.due("classify by the last", firewall.classify(7, 0, 0), 1 - action);
            firewall.removeRule(14);
            check.due("classify by none", firewall.classify(7, 0, 0), action);
        }
    }

    private static void defaultDecidesWithoutARule(Check check) {
        check.sentence("If no rule matches, it is the default action.");
        for (int byDefault = 0; byDefault < 2; byDefault++) {
            StatefulFirewall firewall = new StatefulFirewall(4, 4, byDefault);
            check.due("classify of an empty list", firewall.classify(0, 0, 0), byDefault);
            firewall.addRule(Sample.prefix(6, 3), 0, 240, 2 + 4 * (1 - byDefault));
            check.due("classify below the rule", firewall.classify(5, 0, 0), byDefault);
            check.due("classify on its first", firewall.classify(6, 0, 0), 1 - byDefault);
            check.due("classify on its last", firewall.classify(7, 0, 0), 1 - byDefault);
            check.due("classify above the rule", firewall.classify(8, 0, 0), byDefault);
        }
    }
}
