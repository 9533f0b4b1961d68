import java.io.IOException;
import java.lang.reflect.Method;
import java.lang.reflect.Modifier;
import java.nio.file.Files;
import java.nio.file.Path;
import java.util.ArrayList;
import java.util.Arrays;
import java.util.Collections;
import java.util.List;

/** README.md tells of every call, and what its example and its tables tell is so. */
public final class ReadmeTest {
    private static final Check CHECK = new Check();

    private final List<String> lines;

    private ReadmeTest(List<String> lines) {
        this.lines = lines;
    }

    public static void main(String[] args) throws IOException {
        ReadmeTest readme = new ReadmeTest(Files.readAllLines(Path.of("README.md")));
        readme.example();
        readme.exampleIsTheOneRun(Files.readString(Path.of("src/test/java/ReadmeTest.java")));
        readme.everyCallIsTold();
        readme.verdictsAreTold();
        readme.statesAreTold();
        CHECK.end();
    }

    /** The calls of the example are in the README, and each answers what stands behind it. */
    private void example() {
        StatefulFirewall firewall = new StatefulFirewall(8, 8, StatefulFirewall.DROP);
        int all = 0;
        int allPorts = 0 + 16 * 15;
        int acceptTcp = StatefulFirewall.TCP + 4 * StatefulFirewall.ACCEPT;
        says("firewall.addRule(8 + 16 * 1, all, allPorts, acceptTcp); // 0",
            firewall.addRule(8 + 16 * 1, all, allPorts, acceptTcp), 0);
        int addrs = 9 + 16 * 2;
        int ports = 3 + 16 * 4;
        int replyAddrs = 2 + 16 * 9;
        int replyPorts = 4 + 16 * 3;
        int syn = StatefulFirewall.TCP + 2 * StatefulFirewall.SYN;
        int synAck = StatefulFirewall.TCP + 2 * (StatefulFirewall.SYN + StatefulFirewall.ACK);
        says("firewall.classify(replyAddrs, replyPorts, StatefulFirewall.TCP); // DROP",
            firewall.classify(replyAddrs, replyPorts, StatefulFirewall.TCP), StatefulFirewall.DROP);
        says("firewall.packet(addrs, ports, syn, 100); // V_NEW",
            firewall.packet(addrs, ports, syn, 100), StatefulFirewall.V_NEW);
        says("firewall.packet(replyAddrs, replyPorts, synAck, 200); // V_PASS",
            firewall.packet(replyAddrs, replyPorts, synAck, 200), StatefulFirewall.V_PASS);
        says("firewall.connState(addrs, ports, StatefulFirewall.TCP); // SYN_RECV",
            firewall.connState(addrs, ports, StatefulFirewall.TCP), StatefulFirewall.SYN_RECV);
        says("firewall.connNextSeq(addrs, ports, StatefulFirewall.TCP); // 101",
            firewall.connNextSeq(addrs, ports, StatefulFirewall.TCP), 101);
        says("firewall.connTimeLeft(addrs, ports, StatefulFirewall.TCP); // 6",
            firewall.connTimeLeft(addrs, ports, StatefulFirewall.TCP), 6);
        says("firewall.packet(addrs, ports, syn, 256); // BAD",
            firewall.packet(addrs, ports, syn, 256), StatefulFirewall.BAD);
        says("firewall.tick(6); // 1", firewall.tick(6), 1);
        CHECK.due("calls in the example", (int) lines.stream().filter(line -> line.startsWith("firewall.")).count(), 9);
    }

    private void exampleIsTheOneRun(String source) {
        int first = lines.indexOf("```java") + 1;
        int end = first + lines.subList(first, lines.size()).indexOf("```");
        for (String line : lines.subList(first, end)) {
            String code = line.replaceAll(";?\\s*(//.*)?$", "");
            CHECK.due("ReadmeTest has " + code, source.contains(code), true);
        }
        CHECK.due("the example has lines", end - first > 9, true);
    }

    private void says(String line, int got, int want) {
        boolean told = lines.stream().anyMatch(each -> each.equals(line) || each.startsWith(line + ", "));
        CHECK.due("the README says " + line, told, true);
        CHECK.due(line, got, want);
    }

    private void everyCallIsTold() {
        List<String> due = new ArrayList<>();
        for (Method method : StatefulFirewall.class.getDeclaredMethods()) {
            if (Modifier.isPublic(method.getModifiers())) {
                due.add(method.getName() + " " + method.getParameterCount());
            }
        }
        List<String> told = new ArrayList<>();
        for (String line : lines) {
            if (line.matches("\\| `\\w+\\(.*")) {
                String parameters = line.substring(line.indexOf('(') + 1, line.indexOf(')'));
                int count = parameters.isEmpty() ? 0 : parameters.split(", ").length;
                told.add(line.substring(3, line.indexOf('(')) + " " + count);
            }
        }
        Collections.sort(due);
        Collections.sort(told);
        CHECK.due("the README's calls " + told + " are the class's " + due, told.equals(due), true);
    }

    private void verdictsAreTold() {
        row("V_DROP", StatefulFirewall.V_DROP);
        row("V_NEW", StatefulFirewall.V_NEW);
        row("V_PASS", StatefulFirewall.V_PASS);
        row("V_INVALID", StatefulFirewall.V_INVALID);
        row("V_FULL", StatefulFirewall.V_FULL);
        row("V_CLOSED", StatefulFirewall.V_CLOSED);
    }

    private void row(String name, int value) {
        String start = "| `" + name + "` (" + value + ") |";
        CHECK.due("the README has " + start, lines.stream().anyMatch(line -> line.startsWith(start)), true);
    }

    private void statesAreTold() {
        String[] rows = {"| `NONE` | 0 | |", "| `SYN_SENT`, `SYN_RECV` | 1, 2 | 6 |", "| `ESTABLISHED` | 3 | 40 |",
            "| `FIN_ORIG`, `FIN_REPLY`, `CLOSING` | 4, 5, 6 | 12 |", "| `TIME_WAIT` | 7 | 4 |",
            "| `UDP_NEW`, `UDP_REPLIED` | 8, 9 | 10, 30 |"};
        CHECK.due("the README has the table of states", lines.containsAll(Arrays.asList(rows)), true);
    }
}
