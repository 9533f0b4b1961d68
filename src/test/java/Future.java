import java.util.stream.IntStream;

/**
 * What a firewall answers now and in a fixed run of calls from here on. Two firewalls with the same future hold the
 * same, also what no single question shows: the capacities, the default action, what an entry waits for.
 */
final class Future {
    private static final int OTHERS = 4;
    static final int QUESTIONS = OTHERS + HeaderCall.values().length;
    private static final int SOURCES = 16;

    private final StatefulFirewall firewall;
    private final IntStream.Builder answers = IntStream.builder();

    private Future(StatefulFirewall firewall) {
        this.firewall = firewall;
    }

    /** What comes of every question and of a run of calls that change something. The firewall is used up by this. */
    static int[] of(StatefulFirewall firewall) {
        Future future = new Future(firewall);
        future.look();
        future.useUp();
        future.look();
        return future.answers.build().toArray();
    }

    /** The same without a single question. */
    static int[] unasked(StatefulFirewall firewall) {
        Future future = new Future(firewall);
        future.useUp();
        return future.answers.build().toArray();
    }

    /** The answers to one question alone, put to everything that it can be put to. */
    static int[] answersTo(int question, StatefulFirewall firewall) {
        Future future = new Future(firewall);
        future.ask(question);
        return future.answers.build().toArray();
    }

    private void look() {
        for (int question = 0; question < QUESTIONS; question++) {
            ask(question);
        }
    }

    private void ask(int question) {
        if (question >= OTHERS) {
            askOfHeaders(HeaderCall.values()[question - OTHERS]);
        } else if (question == 0) {
            answers.add(firewall.now());
        } else if (question == 1) {
            answers.add(firewall.connCount());
        } else if (question == 2) {
            answers.add(firewall.ruleCount());
        } else {
            for (int cell = 0; cell < 64; cell++) {
                answers.add(firewall.ruleInfo(cell / 4, cell % 4));
            }
        }
    }

    private void askOfHeaders(HeaderCall call) {
        for (int source = 0; source < SOURCES; source++) {
            Flow flow = new Flow(source);
            askOfHeader(call, flow.addrs(0), flow.ports(0));
            askOfHeader(call, flow.addrs(1), flow.ports(1));
        }
        askOfHeader(call, Sample.UDP_ADDRS, Sample.UDP_PORTS);
    }

    private void askOfHeader(HeaderCall call, int addrs, int ports) {
        answers.add(call.ask(firewall, addrs, ports, Sample.TCP));
        answers.add(call.ask(firewall, addrs, ports, Sample.UDP));
    }

    private void useUp() {
        answers.add(firewall.tick(1));
        sendOnFlows();
        fillTheList();
        fillTheTable();
        emptyTheList();
        emptyTheTable();
    }

    private void sendOnFlows() {
        for (int source = 0; source < SOURCES; source++) {
            Flow flow = new Flow(source);
            answers.add(flow.tcp(firewall, 0, Sample.ACK, 12));
            answers.add(flow.tcp(firewall, 1, Sample.SYN + Sample.ACK, 249));
            answers.add(flow.udp(firewall, source & 1));
        }
    }

    private void fillTheList() {
        for (int i = 0; i <= SOURCES; i++) {
            answers.add(firewall.addRule(Sample.ALL, Sample.ALL, Sample.ALL_PORTS, Sample.ACCEPT_ANY));
        }
    }

    private void fillTheTable() {
        for (int source = 0; source < 2 * SOURCES; source++) {
            answers.add(firewall.packet(source % 16 + 16 * 9, 1 + source / 16, Sample.UDP, 0));
        }
    }

    /** A packet after each removal shows what is decided: V_DROP, or V_FULL on the full table. */
    private void emptyTheList() {
        for (int i = 0; i <= SOURCES; i++) {
            answers.add(firewall.removeRule(0));
            answers.add(firewall.packet(1, 2, Sample.UDP, 0));
        }
    }

    private void emptyTheTable() {
        for (int i = 0; i < 42; i++) {
            answers.add(firewall.tick(1));
        }
    }
}
