import java.util.function.Supplier;

/** The boundary cases that promise 12 names; the wrap-around stands in Boundary11WrapAroundTest. */
public final class Boundary12NowTest {
    public static void main(String[] args) {
        Check check = new Check();
        zeroAfterConstruction(check);
        onlyAcceptedTicksMoveIt(check);
        noOtherCallMovesIt(check);
        asksOnly(check);
        check.end();
    }

    private static void zeroAfterConstruction(Check check) {
        check.sentence("It is 0 after construction");
        for (int given : new int[] {Sample.MIN, -1, 0, 1, 100, Sample.MAX}) {
            check.due("now()", new StatefulFirewall(given, given, given).now(), 0);
        }
    }

    private static void onlyAcceptedTicksMoveIt(Check check) {
        check.sentence("changes only through accepted tick calls");
        StatefulFirewall firewall = Sample.acceptAll();
        int due = 0;
        for (int n = -110; n <= 210; n++) {
            firewall.tick(n);
            due += n >= 1 && n <= 100 ? n : 0;
            check.due("now() after tick(" + n + ")", firewall.now(), due);
        }
        for (int n : Sample.outside(100)) {
            firewall.tick(n);
            check.due("now() after tick(" + n + ")", firewall.now(), due);
        }
    }

    private static void noOtherCallMovesIt(Check check) {
        check.sentence("changes only through accepted tick calls");
        for (Supplier<StatefulFirewall> place : Places.ALL) {
            StatefulFirewall firewall = place.get();
            int before = firewall.now();
            for (int given = -1; given <= 256; given++) {
                firewall.addRule(given, 0, 240, 6);
                firewall.removeRule(given);
                firewall.ruleInfo(given, 0);
                firewall.packet(given, given, given & 31, given);
                for (HeaderCall call : HeaderCall.values()) {
                    call.ask(firewall, given, given, given & 1);
                }
            }
            firewall.shadowed(0);
            firewall.redundant(0);
            firewall.ruleCount();
            firewall.connCount();
            check.due("now()", firewall.now(), before);
        }
    }

    private static void asksOnly(Check check) {
        check.sentence("The call changes nothing.");
        check.changesNothing("now()", Places::newDropping, StatefulFirewall::now, 0);
        check.changesNothing("now()", Sample::busy, StatefulFirewall::now, 5);
        check.changesNothing("now()", Places::fullOfFour, StatefulFirewall::now, 103);
        check.changesNothing("now()", Places::fullOfSixteen, StatefulFirewall::now, 1);
    }
}
