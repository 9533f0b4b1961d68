/** Rule lists, and what the words of the document say of them, found out in the slowest way. */
final class Lists {
    private Lists() {
    }

    static StatefulFirewall random(Numbers numbers) {
        StatefulFirewall firewall = new StatefulFirewall(16, 4, numbers.below(2));
        int wanted = 1 + numbers.below(16);
        for (int i = 0; i < wanted; i++) {
            int low = numbers.below(16);
            int range = numbers.below(2) == 0 ? Sample.ALL_PORTS : Sample.range(low, low + numbers.below(16 - low));
            firewall.addRule(shortPrefix(numbers), shortPrefix(numbers), range, numbers.below(3) + 4 * numbers.below(2));
        }
        return firewall;
    }

    /** Short prefixes make lists in which rules hide each other. */
    private static int shortPrefix(Numbers numbers) {
        int length = numbers.below(3);
        int free = 4 - length;
        return Sample.prefix(numbers.below(1 << length) << free, length);
    }

    static boolean shadowed(StatefulFirewall firewall, int index) {
        boolean[] earlier = new boolean[8192];
        for (int rule = 0; rule < index; rule++) {
            for (int tuple = 0; tuple < 8192; tuple++) {
                earlier[tuple] |= matches(firewall, rule, tuple);
            }
        }
        for (int tuple = 0; tuple < 8192; tuple++) {
            if (matches(firewall, index, tuple) && !earlier[tuple]) {
                return false;
            }
        }
        return true;
    }

    /** Whether the copy without the rule classifies some header otherwise. */
    static boolean removalChanges(StatefulFirewall firewall, int index) {
        StatefulFirewall copy = copyOf(firewall);
        copy.removeRule(index);
        for (int header = 0; header < Sample.HEADERS; header++) {
            int addrs = Sample.addrsOf(header);
            int ports = Sample.portsOf(header);
            int proto = Sample.protoOf(header);
            if (copy.classify(addrs, ports, proto) != firewall.classify(addrs, ports, proto)) {
                return true;
            }
        }
        return false;
    }

    private static StatefulFirewall copyOf(StatefulFirewall firewall) {
        StatefulFirewall copy = new StatefulFirewall(16, 4, defaultOf(firewall));
        for (int rule = 0; rule < firewall.ruleCount(); rule++) {
            copy.addRule(firewall.ruleInfo(rule, 0), firewall.ruleInfo(rule, 1), firewall.ruleInfo(rule, 2),
                firewall.ruleInfo(rule, 3));
        }
        return copy;
    }

    /** The default action, read off any header that no rule matches; without one it plays no part. */
    private static int defaultOf(StatefulFirewall firewall) {
        for (int tuple = 0; tuple < 8192; tuple++) {
            int ports = (tuple >> 8 & 15) << 4;
            if (firewall.matchingRule(tuple & 255, ports, tuple >> 12) == StatefulFirewall.NO_MATCH) {
                return firewall.classify(tuple & 255, ports, tuple >> 12);
            }
        }
        return StatefulFirewall.DROP;
    }

    static boolean matches(StatefulFirewall firewall, int rule, int tuple) {
        int range = firewall.ruleInfo(rule, 2);
        int proto = firewall.ruleInfo(rule, 3) & 3;
        int dport = tuple >> 8 & 15;
        return covers(firewall.ruleInfo(rule, 0), tuple & 15)
            && covers(firewall.ruleInfo(rule, 1), tuple >> 4 & 15)
            && dport >= (range & 15) && dport <= range >> 4
            && (proto == StatefulFirewall.ANY || proto == tuple >> 12);
    }

    private static boolean covers(int prefix, int address) {
        int first = prefix & 15;
        return address >= first && address < first + (16 >> (prefix >> 4));
    }
}
