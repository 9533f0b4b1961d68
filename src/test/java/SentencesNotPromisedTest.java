import java.util.ArrayList;
import java.util.List;

/** What "Not promised" leaves free is not tested; that no answer shows it is. */
public final class SentencesNotPromisedTest {
    private static final int NO_MATCH = StatefulFirewall.NO_MATCH;
    private static final int FLOWS = 6;

    public static void main(String[] args) {
        Check check = new Check();
        unsetIsVisibleOnlyAsNoMatch(check);
        noAnswerDependsOnTheOrderOfEntries(check);
        check.end();
    }

    private static void unsetIsVisibleOnlyAsNoMatch(Check check) {
        check.sentence("How UNSET is represented is free, since it is visible only as NO_MATCH from connNextSeq.");
        Flow flow = new Flow(3);
        for (int seq = 0; seq < 256; seq++) {
            // Whatever number stands for UNSET, no packet of the reply is in its window or its retransmit.
            for (int flags = 0; flags < 16; flags++) {
                StatefulFirewall firewall = Sample.acceptAll();
                flow.tcp(firewall, 0, Sample.SYN, 9);
                check.due("nxt[1]", flow.nextSeq(firewall, 1), NO_MATCH);
                int passed = flags == Sample.SYN + Sample.ACK ? StatefulFirewall.V_PASS : StatefulFirewall.V_INVALID;
                int want = flags >= Sample.RST ? StatefulFirewall.V_CLOSED : passed;
                check.due("flags " + flags + " and seq " + seq, flow.tcp(firewall, 1, flags, seq), want);
            }
        }
    }

    private static void noAnswerDependsOnTheOrderOfEntries(Check check) {
        check.sentence("The order in which entries are kept is free, because no answer depends on it.");
        int[] inOrder = {0, 1, 2, 3, 4, 5};
        List<int[]> orders = orders();
        check.due("orders", orders.size(), 720);
        for (int[] order : orders) {
            StatefulFirewall first = opened(inOrder);
            StatefulFirewall other = opened(order);
            sameAnswers(check, first, other);
            // Entries go from the middle, by RST and by their time, and new ones come.
            check.due("RST", reset(other), reset(first));
            sameAnswers(check, first, other);
            check.due("UDP", new Flow(11).udp(other, 0), new Flow(11).udp(first, 0));
            check.due("tick(6)", other.tick(6), first.tick(6));
            sameAnswers(check, first, other);
            check.due("tick(5)", other.tick(5), first.tick(5));
            sameAnswers(check, first, other);
        }
    }

    /** Every order of the six flows. */
    private static List<int[]> orders() {
        List<int[]> orders = new ArrayList<>();
        for (int number = 0; number < FLOWS * FLOWS * FLOWS * FLOWS * FLOWS * FLOWS; number++) {
            int[] order = new int[FLOWS];
            int seen = 0;
            int rest = number;
            for (int i = 0; i < FLOWS; i++) {
                order[i] = rest % FLOWS;
                seen |= 1 << order[i];
                rest /= FLOWS;
            }
            if (seen == (1 << FLOWS) - 1) {
                orders.add(order);
            }
        }
        return orders;
    }

    /** The flows, each in a state of its own, opened in the order. */
    private static StatefulFirewall opened(int[] order) {
        int[] states = {1, 3, 8, 4, 9, 2};
        StatefulFirewall firewall = new StatefulFirewall(4, FLOWS, StatefulFirewall.ACCEPT);
        for (int flow : order) {
            new Flow(flow).lead(firewall, states[flow]);
        }
        return firewall;
    }

    private static int reset(StatefulFirewall firewall) {
        return new Flow(3).tcp(firewall, 0, Sample.RST, Sample.nextOrigin(4, 9));
    }

    private static void sameAnswers(Check check, StatefulFirewall first, StatefulFirewall other) {
        check.due("connCount()", other.connCount(), first.connCount());
        for (int source = 0; source < 16; source++) {
            Flow flow = new Flow(source);
            for (int number = 0; number < 4; number++) {
                int addrs = flow.addrs(number & 1);
                int ports = flow.ports(number & 1);
                int proto = number >> 1;
                for (HeaderCall call : HeaderCall.values()) {
                    int want = call.ask(first, addrs, ports, proto);
                    check.due(call.told(addrs, ports, proto), call.ask(other, addrs, ports, proto), want);
                }
            }
        }
    }
}
