import java.util.stream.IntStream;

/**
 * What a firewall answers now and in a fixed run of calls from here on. Two firewalls with the same future hold the
 * same, also what no single question shows: the capacities, the default action, what an entry waits for.
 */
final class Future {
    private static final int SOURCES = 16;

    private final StatefulFirewall firewall;
    private final IntStream.Builder answers = IntStream.builder();

    private Future(StatefulFirewall firewall) {
        this.firewall = firewall;
    }

    /** The firewall is used up by this. */
    static int[] of(StatefulFirewall firewall) {
        Future future = new Future(firewall);
        future.look();
        future.tickOnce();
        future.sendOnFlows();
        future.look();
        future.fillTheList();
        future.fillTheTable();
        future.look();
        future.emptyTheList();
        future.emptyTheTable();
        future.look();
        return future.answers.build().toArray();
    }

    private void look() {
        answers.add(firewall.now());
        answers.add(firewall.connCount());
        answers.add(firewall.ruleCount());
        for (int cell = 0; cell < 64; cell++) {
            answers.add(firewall.ruleInfo(cell / 4, cell % 4));
        }
        for (int source = 0; source < SOURCES; source++) {
            Flow flow = new Flow(source);
            ask(flow.addrs(0), flow.ports(0));
            ask(flow.addrs(1), flow.ports(1));
        }
        ask(Sample.UDP_ADDRS, Sample.UDP_PORTS);
    }

    private void ask(int addrs, int ports) {
        for (HeaderCall call : HeaderCall.values()) {
            answers.add(call.ask(firewall, addrs, ports, Sample.TCP));
            answers.add(call.ask(firewall, addrs, ports, Sample.UDP));
        }
    }

    private void tickOnce() {
        answers.add(firewall.tick(1));
        answers.add(firewall.now());
    }

    private void sendOnFlows() {
        for (int source = 0; source < SOURCES; source++) {
            Flow flow = new Flow(source);
            answers.add(flow.tcp(firewall, 0, Sample.ACK, 12));
            answers.add(flow.tcp(firewall, 1, Sample.SYN + Sample.ACK, 249));
            answers.add(flow.udp(firewall, source & 1));
        }
    }

    private void fillTheList() {
        for (int i = 0; i <= SOURCES; i++) {
            answers.add(firewall.addRule(Sample.ALL, Sample.ALL, Sample.ALL_PORTS, Sample.ACCEPT_ANY));
        }
    }

    private void fillTheTable() {
        for (int source = 0; source < 2 * SOURCES; source++) {
            answers.add(firewall.packet(source % 16 + 16 * 9, 1 + source / 16, Sample.UDP, 0));
        }
    }

    private void emptyTheList() {
        for (int i = 0; i <= SOURCES; i++) {
            answers.add(firewall.removeRule(0));
            answers.add(firewall.classify(1, 2, Sample.TCP));
            answers.add(firewall.matchingRule(1, 2, Sample.TCP));
        }
    }

    private void emptyTheTable() {
        for (int i = 0; i < 42; i++) {
            tickOnce();
            answers.add(firewall.connCount());
        }
    }
}
