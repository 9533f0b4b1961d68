import java.util.function.Supplier;

/** Every sentence of promise 11 but the one on the wrap-around, which Sentences11WrapAroundTest goes through. */
public final class Sentences11TickTest {
    private static final int BAD = StatefulFirewall.BAD;

    public static void main(String[] args) {
        Check check = new Check();
        refusesBesideOneToHundred(check);
        takesOneToHundred(check);
        clockMovesFirst(check);
        expiryUpToNowIsRemoved(check);
        numberRemovedIsAnswered(check);
        othersAreUnchanged(check);
        rulesAreNotTouched(check);
        check.end();
    }

    private static void refusesBesideOneToHundred(Check check) {
        check.sentence("tick(n) answers BAD and changes nothing unless 1 <= n <= 100");
        for (Supplier<StatefulFirewall> place : Places.ALL) {
            check.changesNothing("tick(0)", place, firewall -> firewall.tick(0), BAD);
            for (int n : Sample.outside(100)) {
                check.changesNothing("tick(" + n + ")", place, firewall -> firewall.tick(n), BAD);
            }
        }
    }

    private static void takesOneToHundred(Check check) {
        check.sentence("unless 1 <= n <= 100");
        for (int n = -5; n <= 105; n++) {
            StatefulFirewall firewall = Sample.acceptAll();
            boolean valid = n >= 1 && n <= 100;
            check.due("tick(" + n + ")", firewall.tick(n), valid ? 0 : BAD);
            check.due("now() after tick(" + n + ")", firewall.now(), valid ? n : 0);
        }
    }

    private static void clockMovesFirst(Check check) {
        check.sentence("Otherwise it first does now += n.");
        StatefulFirewall firewall = Sample.acceptAll();
        firewall.packet(1, 2, Sample.UDP, 0);
        // Were the clock to move last, the entry would stay until the tick after.
        check.due("tick(10)", firewall.tick(10), 1);
        check.due("now()", firewall.now(), 10);
        check.due("tick(100)", firewall.tick(100), 0);
        check.due("now()", firewall.now(), 110);
    }

    private static void expiryUpToNowIsRemoved(Check check) {
        check.sentence("Then it removes every entry with expiry <= now");
        for (int state = 1; state <= 9; state++) {
            int timeout = Sample.timeout(state);
            int proto = Sample.protoOfState(state);
            for (int n = 1; n <= 100; n++) {
                StatefulFirewall firewall = Sample.acceptAll();
                firewall.tick(n);
                Sample.leadAny(firewall, state);
                boolean passed = timeout <= n;
                check.due("tick(" + n + ") in state " + state, firewall.tick(n), passed ? 1 : 0);
                check.due("state", Sample.FLOW.state(firewall, proto), passed ? StatefulFirewall.NONE : state);
                int left = passed ? StatefulFirewall.NO_MATCH : timeout - n;
                check.due("time left", Sample.FLOW.timeLeft(firewall, proto), left);
            }
        }
    }

    private static void numberRemovedIsAnswered(Check check) {
        check.sentence("answers the number removed, which may be 0");
        check.due("tick(100) of an empty table", Sample.acceptAll().tick(100), 0);
        for (int entries = 1; entries <= 16; entries++) {
            for (int due = 0; due <= entries; due++) {
                StatefulFirewall firewall = Sample.acceptAll();
                for (int source = 0; source < entries; source++) {
                    new Flow(source).lead(firewall, source < due ? 8 : 9);
                }
                check.due("tick(9)", firewall.tick(9), 0);
                check.due("tick(1) with " + due + " due", firewall.tick(1), due);
                check.due("connCount()", firewall.connCount(), entries - due);
                check.due("tick(1) at once", firewall.tick(1), 0);
                check.due("tick(100) for the rest", firewall.tick(100), entries - due);
                check.due("connCount()", firewall.connCount(), 0);
            }
        }
    }

    private static void othersAreUnchanged(Check check) {
        check.sentence("Entries not removed are unchanged");
        // Ticks to every moment until the last entry has gone, seen against how long each entry has to live.
        for (int n = 1; n <= 45; n++) {
            StatefulFirewall untouched = Places.fullOfSixteen();
            StatefulFirewall firewall = Places.fullOfSixteen();
            int removed = 0;
            int answer = firewall.tick(n);
            for (int source = 0; source < 16; source++) {
                Flow flow = new Flow(source);
                int state = 1 + source % 9;
                int proto = Sample.protoOfState(state);
                boolean kept = flow.timeLeft(untouched, proto) > n;
                removed += kept ? 0 : 1;
                int left = kept ? flow.timeLeft(untouched, proto) - n : StatefulFirewall.NO_MATCH;
                check.due("state after tick(" + n + ")", flow.state(firewall, proto), kept ? state : 0);
                check.due("time left after tick(" + n + ")", flow.timeLeft(firewall, proto), left);
                nextIs(check, flow, firewall, untouched, kept);
            }
            check.due("tick(" + n + ")", answer, removed);
        }
    }

    private static void nextIs(Check check, Flow flow, StatefulFirewall firewall, StatefulFirewall untouched,
            boolean kept) {
        for (int direction = 0; direction < 2; direction++) {
            int want = kept ? flow.nextSeq(untouched, direction) : StatefulFirewall.NO_MATCH;
            check.due("next in direction " + direction, flow.nextSeq(firewall, direction), want);
        }
    }

    private static void rulesAreNotTouched(Check check) {
        check.sentence("and the rule list is not touched");
        for (Supplier<StatefulFirewall> place : Places.ALL) {
            StatefulFirewall firewall = place.get();
            View before = View.of(firewall);
            firewall.tick(1);
            check.rulesUnchanged("tick(1)", firewall, before);
            firewall.tick(100);
            check.rulesUnchanged("tick(100)", firewall, before);
        }
    }
}
