/** A scattered rule list with its default, and what the words of the document say of it, found in the slowest way. */
final class RuleList {
    private final int defaultAction;
    private final int[][] rules;

    RuleList(Numbers numbers) {
        defaultAction = numbers.below(2);
        rules = new int[1 + numbers.below(16)][];
        for (int i = 0; i < rules.length; i++) {
            int low = numbers.below(16);
            int range = numbers.below(2) == 0 ? Sample.ALL_PORTS : Sample.range(low, low + numbers.below(16 - low));
            int action = numbers.below(3) + 4 * numbers.below(2);
            rules[i] = new int[] {shortPrefix(numbers), shortPrefix(numbers), range, action};
        }
    }

    /** Short prefixes make lists in which rules hide each other. */
    private static int shortPrefix(Numbers numbers) {
        int length = numbers.below(3);
        int free = 4 - length;
        return Sample.prefix(numbers.below(1 << length) << free, length);
    }

    int count() {
        return rules.length;
    }

    /** A new firewall with this list. */
    StatefulFirewall firewall() {
        StatefulFirewall firewall = new StatefulFirewall(16, 4, defaultAction);
        for (int[] rule : rules) {
            firewall.addRule(rule[0], rule[1], rule[2], rule[3]);
        }
        return firewall;
    }

    boolean shadowed(int index) {
        boolean[] earlier = new boolean[8192];
        for (int rule = 0; rule < index; rule++) {
            for (int tuple = 0; tuple < 8192; tuple++) {
                earlier[tuple] |= matches(rule, tuple);
            }
        }
        for (int tuple = 0; tuple < 8192; tuple++) {
            if (matches(index, tuple) && !earlier[tuple]) {
                return false;
            }
        }
        return true;
    }

    /** Whether a firewall classifies some header otherwise once it has removed the rule. */
    boolean removalChanges(int index) {
        StatefulFirewall whole = firewall();
        StatefulFirewall without = firewall();
        without.removeRule(index);
        for (int header = 0; header < Sample.HEADERS; header++) {
            int addrs = Sample.addrsOf(header);
            int ports = Sample.portsOf(header);
            int proto = Sample.protoOf(header);
            if (without.classify(addrs, ports, proto) != whole.classify(addrs, ports, proto)) {
                return true;
            }
        }
        return false;
    }

    boolean matches(int rule, int tuple) {
        int range = rules[rule][2];
        int proto = rules[rule][3] & 3;
        int dport = tuple >> 8 & 15;
        return covers(rules[rule][0], tuple & 15)
            && covers(rules[rule][1], tuple >> 4 & 15)
            && dport >= (range & 15) && dport <= range >> 4
            && (proto == StatefulFirewall.ANY || proto == tuple >> 12);
    }

    private static boolean covers(int prefix, int address) {
        int first = prefix & 15;
        return address >= first && address < first + (16 >> (prefix >> 4));
    }
}
