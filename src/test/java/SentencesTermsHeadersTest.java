/** Every sentence of "Terms" under "Addresses, ports, headers". */
public final class SentencesTermsHeadersTest {
    private static final int BAD = StatefulFirewall.BAD;
    private static final int NO_MATCH = StatefulFirewall.NO_MATCH;

    public static void main(String[] args) {
        Check check = new Check();
        addressesAndPortsHaveFourBits(check);
        headerIsThreeInts(check);
        addrsAreWithin255(check);
        portsAreWithin255(check);
        protoIsTcpOrUdp(check);
        onePartOutIsInvalid(check);
        rulesDoNotLookAtSport(check);
        domainHasEveryTuple(check);
        domainHasNoOtherTuple(check);
        check.end();
    }

    private static void addressesAndPortsHaveFourBits(Check check) {
        check.sentence("An address is 0..15 (4 bits), and a port is 0..15.");
        StatefulFirewall firewall = Sample.dropAll();
        firewall.addRule(Sample.prefix(15, 4), Sample.prefix(0, 4), Sample.range(15, 15), Sample.ACCEPT_ANY);
        firewall.addRule(Sample.prefix(0, 4), Sample.prefix(15, 4), Sample.range(0, 0), Sample.ACCEPT_ANY);
        for (int addrs = 0; addrs < 256; addrs++) {
            for (int ports = 0; ports < 256; ports++) {
                boolean first = addrs == 15 && ports >= 240;
                boolean second = addrs == 240 && ports <= 15;
                int want = first ? 0 : second ? 1 : NO_MATCH;
                String call = HeaderCall.MATCHING_RULE.told(addrs, ports, 0);
                check.due(call, firewall.matchingRule(addrs, ports, 0), want);
            }
        }
    }

    private static void headerIsThreeInts(Check check) {
        check.sentence("A header is given as three ints: addrs = src + 16*dst, valid 0..255; "
            + "ports = sport + 16*dport, valid 0..255; proto = TCP (0) or UDP (1).");
        for (int value = 0; value < 16; value++) {
            // One flow whose four numbers differ; the replies are the header with the halves of both ints turned.
            int src = value;
            int dst = value + 3 & 15;
            int sport = value + 7 & 15;
            int dport = value + 12 & 15;
            StatefulFirewall firewall = Sample.dropAll();
            firewall.addRule(Sample.prefix(src, 4), Sample.prefix(dst, 4), Sample.range(dport, dport), 6);
            for (int proto = 0; proto < 2; proto++) {
                int protoFlags = proto == Sample.UDP ? Sample.UDP : Sample.tcp(Sample.SYN);
                int addrs = src + 16 * dst;
                int ports = sport + 16 * dport;
                int backAddrs = dst + 16 * src;
                int backPorts = dport + 16 * sport;
                check.due("matchingRule", firewall.matchingRule(addrs, ports, proto), 0);
                check.due("matchingRule back", firewall.matchingRule(backAddrs, backPorts, proto), NO_MATCH);
                check.due("packet", firewall.packet(addrs, ports, protoFlags, 0), StatefulFirewall.V_NEW);
                check.due("direction", firewall.connDirection(addrs, ports, proto), 0);
                check.due("direction back", firewall.connDirection(backAddrs, backPorts, proto), 1);
            }
        }
    }

    private static void addrsAreWithin255(Check check) {
        check.sentence("addrs = src + 16*dst, valid 0..255");
        for (HeaderCall call : HeaderCall.values()) {
            asks(check, call, -1, 0, 0, BAD);
            asks(check, call, 0, 0, 0, call.answerOfNew);
            asks(check, call, 255, 0, 0, call.answerOfNew);
            asks(check, call, 256, 0, 0, BAD);
            for (int far : Sample.outside(255)) {
                asks(check, call, far, 0, 0, BAD);
            }
        }
    }

    private static void portsAreWithin255(Check check) {
        check.sentence("ports = sport + 16*dport, valid 0..255");
        for (HeaderCall call : HeaderCall.values()) {
            asks(check, call, 0, -1, 0, BAD);
            asks(check, call, 0, 0, 0, call.answerOfNew);
            asks(check, call, 0, 255, 0, call.answerOfNew);
            asks(check, call, 0, 256, 0, BAD);
            for (int far : Sample.outside(255)) {
                asks(check, call, 0, far, 0, BAD);
            }
        }
    }

    private static void protoIsTcpOrUdp(Check check) {
        check.sentence("proto = TCP (0) or UDP (1)");
        for (HeaderCall call : HeaderCall.values()) {
            asks(check, call, 0, 0, -1, BAD);
            asks(check, call, 0, 0, 0, call.answerOfNew);
            asks(check, call, 0, 0, 1, call.answerOfNew);
            asks(check, call, 0, 0, StatefulFirewall.ANY, BAD);
            asks(check, call, 0, 0, 3, BAD);
            for (int far : Sample.outside(1)) {
                asks(check, call, 0, 0, far, BAD);
            }
        }
    }

    private static void asks(Check check, HeaderCall call, int addrs, int ports, int proto, int want) {
        StatefulFirewall firewall = Sample.dropAll();
        check.due(call.told(addrs, ports, proto), call.ask(firewall, addrs, ports, proto), want);
    }

    private static void onePartOutIsInvalid(Check check) {
        check.sentence("A header with addrs, ports or proto out of range is INVALID.");
        int[] pairs = {-1, 0, 255, 256};
        int[] protos = {-1, 0, 1, 2};
        for (HeaderCall call : HeaderCall.values()) {
            for (int number = 0; number < 64; number++) {
                int addrs = pairs[number & 3];
                int ports = pairs[number >> 2 & 3];
                int proto = protos[number >> 4];
                boolean valid = addrs == (addrs & 255) && ports == (ports & 255) && proto == (proto & 1);
                asks(check, call, addrs, ports, proto, valid ? call.answerOfNew : BAD);
            }
        }
    }

    private static void rulesDoNotLookAtSport(Check check) {
        check.sentence("Rules look only at (src, dst, dport, proto).");
        StatefulFirewall firewall = Sample.dropAll();
        firewall.addRule(Sample.prefix(4, 2), Sample.prefix(12, 3), Sample.range(3, 8), Sample.ACCEPT_UDP);
        for (int sport = 0; sport < 16; sport++) {
            check.due("classify from port " + sport, firewall.classify(7 + 16 * 13, sport + 16 * 3, 1), 1);
            check.due("classify from port " + sport, firewall.classify(7 + 16 * 13, sport + 16 * 8, 1), 1);
            check.due("classify from port " + sport, firewall.classify(7 + 16 * 13, sport + 16 * 2, 1), 0);
            check.due("classify from port " + sport, firewall.classify(7 + 16 * 13, sport + 16 * 9, 1), 0);
            check.due("packet from port " + sport, firewall.packet(7 + 16 * 13, sport + 16 * 8, 1, 0),
                StatefulFirewall.V_NEW);
            check.due("packet from port " + sport, firewall.packet(7 + 16 * 13, sport + 16 * 9, 1, 0),
                StatefulFirewall.V_DROP);
        }
    }

    private static void domainHasEveryTuple(Check check) {
        check.sentence("The RULE DOMAIN is all 16*16*16*2 = 8192 such tuples.");
        for (int tuple = 0; tuple < 8192; tuple++) {
            StatefulFirewall firewall = Sample.dropAll();
            ruleOfTuple(firewall, tuple, StatefulFirewall.ACCEPT);
            check.due("redundant of the one tuple " + tuple, firewall.redundant(0), false);
        }
        // A step without a common part with 8192 meets every value of every part; the ends are the corners.
        for (int step = 0; step <= 8191; step += 91) {
            shadowedButFor(check, step);
            shadowedButFor(check, 8191 - step);
        }
    }

    private static void ruleOfTuple(StatefulFirewall firewall, int tuple, int action) {
        int dport = tuple >> 8 & 15;
        firewall.addRule(Sample.prefix(tuple & 15, 4), Sample.prefix(tuple >> 4 & 15, 4), Sample.range(dport, dport),
            (tuple >> 12) + 4 * action);
    }

    /** All tuples but one are covered, so the rule for all is not shadowed; with the one covered too, it is. */
    private static void shadowedButFor(Check check, int tuple) {
        StatefulFirewall firewall = Sample.dropAll();
        coverAllBut(firewall, tuple);
        int covering = firewall.addRule(Sample.ALL, Sample.ALL, Sample.ALL_PORTS, Sample.ACCEPT_ANY);
        check.due("shadowed but for the tuple " + tuple, firewall.shadowed(covering), false);
        firewall.removeRule(covering);
        ruleOfTuple(firewall, tuple, StatefulFirewall.ACCEPT);
        firewall.addRule(Sample.ALL, Sample.ALL, Sample.ALL_PORTS, Sample.ACCEPT_ANY);
        check.due("shadowed with the tuple " + tuple, firewall.shadowed(covering + 1), true);
        check.due("shadowed of the tuple " + tuple, firewall.shadowed(covering), false);
    }

    private static void coverAllBut(StatefulFirewall firewall, int tuple) {
        int src = tuple & 15;
        int dst = tuple >> 4 & 15;
        int dport = tuple >> 8 & 15;
        for (int length = 1; length <= 4; length++) {
            firewall.addRule(sibling(src, length), Sample.ALL, Sample.ALL_PORTS, Sample.DROP_ANY);
            firewall.addRule(Sample.ALL, sibling(dst, length), Sample.ALL_PORTS, Sample.DROP_ANY);
        }
        if (dport > 0) {
            firewall.addRule(Sample.ALL, Sample.ALL, Sample.range(0, dport - 1), Sample.DROP_ANY);
        }
        if (dport < 15) {
            firewall.addRule(Sample.ALL, Sample.ALL, Sample.range(dport + 1, 15), Sample.DROP_ANY);
        }
        firewall.addRule(Sample.ALL, Sample.ALL, Sample.ALL_PORTS, 1 - (tuple >> 12));
    }

    /** The prefix that differs from the address in its last bit alone. */
    private static int sibling(int address, int length) {
        int free = 4 - length;
        return Sample.prefix((address >> free ^ 1) << free, length);
    }

    private static void domainHasNoOtherTuple(Check check) {
        check.sentence("The RULE DOMAIN is all 16*16*16*2 = 8192 such tuples.");
        StatefulFirewall firewall = Sample.dropAll();
        firewall.addRule(Sample.ALL, Sample.ALL, Sample.ALL_PORTS, Sample.ACCEPT_TCP);
        firewall.addRule(Sample.ALL, Sample.ALL, Sample.ALL_PORTS, Sample.ACCEPT_UDP);
        firewall.addRule(Sample.ALL, Sample.ALL, Sample.ALL_PORTS, Sample.ACCEPT_ANY);
        // ANY has no tuple beside those of TCP and UDP.
        check.due("shadowed(2) behind TCP and UDP", firewall.shadowed(2), true);
        check.due("redundant(2) behind TCP and UDP", firewall.redundant(2), true);
        check.due("redundant(0) before ANY", firewall.redundant(0), true);
        check.due("redundant(1) before ANY", firewall.redundant(1), true);
    }
}
