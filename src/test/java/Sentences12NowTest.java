import java.util.function.Supplier;

/** Every sentence of promise 12; the wrap-around stands in Sentences11WrapAroundTest. */
public final class Sentences12NowTest {
    public static void main(String[] args) {
        Check check = new Check();
        answersTheClock(check);
        zeroAfterConstruction(check);
        onlyAcceptedTicksMoveIt(check);
        noOtherCallMovesIt(check);
        asksOnly(check);
        check.end();
    }

    private static void answersTheClock(Check check) {
        check.sentence("now() answers the clock.");
        StatefulFirewall firewall = Sample.acceptAll();
        Flow flow = new Flow(3);
        flow.lead(firewall, StatefulFirewall.ESTABLISHED);
        // The clock is what the entries expire by: 40 after the last packet, whatever the steps are.
        int clock = 0;
        for (int n : new int[] {1, 7, 3, 20, 8}) {
            firewall.tick(n);
            clock += n;
            check.due("now()", firewall.now(), clock);
            check.due("now() and the time left", firewall.now() + flow.timeLeft(firewall, Sample.TCP), 40);
        }
        check.due("tick(1) to the expiry", firewall.tick(1), 1);
        check.due("now() at the expiry", firewall.now(), 40);
    }

    private static void zeroAfterConstruction(Check check) {
        check.sentence("It is 0 after construction");
        for (int given : new int[] {Sample.MIN, -1, 0, 1, 100, Sample.MAX}) {
            check.due("now()", new StatefulFirewall(given, given, given).now(), 0);
        }
    }

    private static void onlyAcceptedTicksMoveIt(Check check) {
        check.sentence("changes only through accepted tick calls");
        StatefulFirewall firewall = Sample.acceptAll();
        int due = 0;
        for (int n = -110; n <= 210; n++) {
            firewall.tick(n);
            due += n >= 1 && n <= 100 ? n : 0;
            check.due("now() after tick(" + n + ")", firewall.now(), due);
        }
        for (int n : Sample.outside(100)) {
            firewall.tick(n);
            check.due("now() after tick(" + n + ")", firewall.now(), due);
        }
    }

    private static void noOtherCallMovesIt(Check check) {
        check.sentence("changes only through accepted tick calls");
        for (Supplier<StatefulFirewall> place : Places.ALL) {
            StatefulFirewall firewall = place.get();
            int before = firewall.now();
            for (int given = -1; given <= 256; given++) {
                firewall.addRule(given, 0, 240, 6);
                firewall.removeRule(given);
                firewall.ruleInfo(given, 0);
                firewall.packet(given, given, given & 31, given);
                for (HeaderCall call : HeaderCall.values()) {
                    call.ask(firewall, given, given, given & 1);
                }
            }
            firewall.shadowed(0);
            firewall.redundant(0);
            firewall.ruleCount();
            firewall.connCount();
            check.due("now()", firewall.now(), before);
        }
    }

    private static void asksOnly(Check check) {
        check.sentence("The call changes nothing.");
        check.changesNothing("now()", Places::newDropping, StatefulFirewall::now, 0);
        check.changesNothing("now()", Sample::busy, StatefulFirewall::now, 5);
        check.changesNothing("now()", Places::fullOfFour, StatefulFirewall::now, 103);
        check.changesNothing("now()", Places::fullOfSixteen, StatefulFirewall::now, 1);
    }
}
