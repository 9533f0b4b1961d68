import java.util.function.Supplier;
import java.util.function.ToIntFunction;

/** What "Terms" says under "General": refused calls, and calls that only ask, in every place. */
public final class SentencesTermsGeneralTest {
    private static final int BAD = StatefulFirewall.BAD;

    private final Check check;
    private final Supplier<StatefulFirewall> place;
    private final int rules;

    private SentencesTermsGeneralTest(Check check, Supplier<StatefulFirewall> place) {
        this.check = check;
        this.place = place;
        rules = place.get().ruleCount();
    }

    public static void main(String[] args) {
        Check check = new Check();
        placesAreAsTold(check);
        for (Supplier<StatefulFirewall> place : Places.ALL) {
            SentencesTermsGeneralTest test = new SentencesTermsGeneralTest(check, place);
            check.sentence("Every refused call answers as stated and changes nothing.");
            test.refusedRules();
            test.refusedIndices();
            test.refusedHeaders();
            test.refusedPackets();
            test.refusedTicks();
            check.sentence("A call not stated to change something changes nothing.");
            test.questionsOfRules();
            test.questionsWithoutArguments();
        }
        for (HeaderCall call : HeaderCall.values()) {
            Headers.asksOnly(check, call);
        }
        check.end();
    }

    private static void placesAreAsTold(Check check) {
        for (int i = 0; i < 2; i++) {
            StatefulFirewall full = Places.FULL.get(i).get();
            int cap = i == 0 ? 4 : 16;
            check.due("ruleCount() of the full place", full.ruleCount(), cap);
            check.due("connCount() of the full place", full.connCount(), cap);
        }
        StatefulFirewall full = Places.fullOfSixteen();
        for (int source = 0; source < 16; source++) {
            int state = 1 + source % 9;
            check.due("state of flow " + source, new Flow(source).state(full, Sample.protoOfState(state)), state);
        }
    }

    private void refusedRules() {
        for (int wrong : new int[] {Sample.MIN, -1, 1, 17, 79 + 1, Sample.MAX}) {
            refused(firewall -> firewall.addRule(wrong, 0, 240, 6), "addRule(" + wrong + ", 0, 240, 6)");
            refused(firewall -> firewall.addRule(0, wrong, 240, 6), "addRule(0, " + wrong + ", 240, 6)");
        }
        for (int wrong : new int[] {Sample.MIN, -1, 1, 239, 255 + 1, Sample.MAX}) {
            refused(firewall -> firewall.addRule(0, 0, wrong, 6), "addRule(0, 0, " + wrong + ", 6)");
        }
        for (int wrong : new int[] {Sample.MIN, -1, 3, 7, 7 + 1, Sample.MAX}) {
            refused(firewall -> firewall.addRule(0, 0, 240, wrong), "addRule(0, 0, 240, " + wrong + ")");
        }
        if (Places.FULL.contains(place)) {
            refused(firewall -> firewall.addRule(0, 0, 240, 6), "addRule(0, 0, 240, 6) on a full list");
        }
    }

    private void refusedIndices() {
        for (int index : new int[] {Sample.MIN, -1, rules, rules + 1, 16, 17, Sample.MAX}) {
            refused(firewall -> firewall.removeRule(index), "removeRule(" + index + ")");
            refused(firewall -> firewall.ruleInfo(index, 0), "ruleInfo(" + index + ", 0)");
            answers(firewall -> firewall.shadowed(index) ? 1 : 0, "shadowed(" + index + ")", 0);
            answers(firewall -> firewall.redundant(index) ? 1 : 0, "redundant(" + index + ")", 0);
        }
        for (int part : new int[] {Sample.MIN, -1, 4, Sample.MAX}) {
            refused(firewall -> firewall.ruleInfo(0, part), "ruleInfo(0, " + part + ")");
        }
    }

    private void refusedHeaders() {
        for (HeaderCall call : HeaderCall.values()) {
            for (int wrong : new int[] {Sample.MIN, -1, 256, Sample.MAX}) {
                refused(firewall -> call.ask(firewall, wrong, Sample.PORTS, 0), call.told(wrong, Sample.PORTS, 0));
                refused(firewall -> call.ask(firewall, Sample.ADDRS, wrong, 0), call.told(Sample.ADDRS, wrong, 0));
            }
            for (int wrong : new int[] {Sample.MIN, -1, 2, Sample.MAX}) {
                refused(firewall -> call.ask(firewall, Sample.ADDRS, Sample.PORTS, wrong),
                    call.told(Sample.ADDRS, Sample.PORTS, wrong));
            }
        }
    }

    private void refusedPackets() {
        int ack = Sample.tcp(Sample.ACK);
        for (int wrong : new int[] {Sample.MIN, -1, 256, Sample.MAX}) {
            refused(firewall -> firewall.packet(wrong, Sample.PORTS, ack, 11), "packet from " + wrong);
            refused(firewall -> firewall.packet(Sample.ADDRS, wrong, ack, 11), "packet on " + wrong);
            refused(firewall -> firewall.packet(Sample.ADDRS, Sample.PORTS, ack, wrong), "packet with seq " + wrong);
            refused(firewall -> firewall.packet(Sample.ADDRS, Sample.PORTS, 1, wrong), "UDP with seq " + wrong);
        }
        // 3 to 31 in twos are UDP with flags; the others are out of range.
        for (int wrong : new int[] {Sample.MIN, -1, 3, 5, 9, 17, 31, 32, 33, 34, 36, Sample.MAX}) {
            refused(firewall -> firewall.packet(Sample.ADDRS, Sample.PORTS, wrong, 11), "packet with " + wrong);
        }
    }

    private void refusedTicks() {
        for (int n : new int[] {Sample.MIN, -100, -1, 0, 101, 102, Sample.MAX}) {
            refused(firewall -> firewall.tick(n), "tick(" + n + ")");
        }
    }

    private void questionsOfRules() {
        for (int index = 0; index < rules; index++) {
            int asked = index;
            for (int part = 0; part < 4; part++) {
                int askedPart = part;
                asks(firewall -> firewall.ruleInfo(asked, askedPart), "ruleInfo(" + index + ", " + part + ")");
            }
            asks(firewall -> firewall.shadowed(asked) ? 1 : 0, "shadowed(" + index + ")");
            asks(firewall -> firewall.redundant(asked) ? 1 : 0, "redundant(" + index + ")");
        }
    }

    private void questionsWithoutArguments() {
        asks(StatefulFirewall::ruleCount, "ruleCount()");
        asks(StatefulFirewall::connCount, "connCount()");
        asks(StatefulFirewall::now, "now()");
    }

    private void refused(ToIntFunction<StatefulFirewall> call, String name) {
        answers(call, name, BAD);
    }

    private void answers(ToIntFunction<StatefulFirewall> call, String name, int want) {
        check.changesNothing(name, place, call, want);
    }

    private void asks(ToIntFunction<StatefulFirewall> question, String name) {
        check.asksOnly(name, place, question);
    }
}
