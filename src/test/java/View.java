import java.util.Arrays;

/** What a firewall answers to every question about its rules, its entries and its clock. */
final class View {
    private final int[] rules;
    private final int[] entriesAndClock;

    private View(int[] rules, int[] entriesAndClock) {
        this.rules = rules;
        this.entriesAndClock = entriesAndClock;
    }

    static View of(StatefulFirewall firewall) {
        return new View(rulesOf(firewall), entriesAndClockOf(firewall));
    }

    boolean sameRules(View other) {
        return Arrays.equals(rules, other.rules);
    }

    boolean sameEntriesAndClock(View other) {
        return Arrays.equals(entriesAndClock, other.entriesAndClock);
    }

    private static int[] rulesOf(StatefulFirewall firewall) {
        int[] answers = new int[1 + 16 * 4];
        answers[0] = firewall.ruleCount();
        for (int cell = 0; cell < 64; cell++) {
            answers[1 + cell] = firewall.ruleInfo(cell / 4, cell % 4);
        }
        return answers;
    }

    private static int[] entriesAndClockOf(StatefulFirewall firewall) {
        int[] answers = new int[2 + 4 * Sample.HEADERS];
        answers[0] = firewall.now();
        answers[1] = firewall.connCount();
        int at = 2;
        for (int header = 0; header < Sample.HEADERS; header++) {
            int addrs = Sample.addrsOf(header);
            int ports = Sample.portsOf(header);
            int proto = Sample.protoOf(header);
            answers[at++] = firewall.connState(addrs, ports, proto);
            answers[at++] = firewall.connDirection(addrs, ports, proto);
            answers[at++] = firewall.connTimeLeft(addrs, ports, proto);
            answers[at++] = firewall.connNextSeq(addrs, ports, proto);
        }
        return answers;
    }
}
