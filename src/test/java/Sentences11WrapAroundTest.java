/** The wrap-around of the clock and of the expiries, which promises 11, 12 and 16 name. */
public final class Sentences11WrapAroundTest {
    private static final int MAX = Integer.MAX_VALUE;
    private static final int MIN = Integer.MIN_VALUE;
    private static final Flow FLOW = new Flow(3);

    public static void main(String[] args) {
        Check check = new Check();
        check.sentence("now, an expiry and expiry - now follow ordinary Java int arithmetic, wrap-around included.");
        clockReachesTheGreatestInt(check);
        clockWrapsToTheLeastInt(check);
        clockPassesZeroAgain(check);
        expiryOnTheGreatestInt(check);
        wrappedExpiryHasPassed(check);
        expiryAndClockWrapTogether(check);
        wrappedClockHasNotPassed(check);
        timeLeftOverAWholeTurn(check);
        wrappedExpiryIsSetAnew(check);
        refusedTicksNearTheEnd(check);
        check.end();
    }

    private static void clockReachesTheGreatestInt(Check check) {
        StatefulFirewall firewall = Clock.at(MAX - 101);
        check.due("now()", firewall.now(), MAX - 101);
        check.due("tick(1)", firewall.tick(1), 0);
        check.due("tick(100)", firewall.tick(100), 0);
        check.due("now() at the end", firewall.now(), MAX);
    }

    private static void clockWrapsToTheLeastInt(Check check) {
        StatefulFirewall byOne = Clock.at(MAX);
        check.due("tick(1) at the end", byOne.tick(1), 0);
        check.due("now() over the end", byOne.now(), MIN);
        check.due("tick(1) over the end", byOne.tick(1), 0);
        check.due("now() over the end", byOne.now(), MIN + 1);
        StatefulFirewall byHundred = Clock.at(MAX - 99);
        check.due("tick(100) to the least int", byHundred.tick(100), 0);
        check.due("now() over the end", byHundred.now(), MIN);
        StatefulFirewall far = Clock.at(MAX);
        check.due("tick(100) at the end", far.tick(100), 0);
        check.due("now() over the end", far.now(), MIN + 99);
    }

    private static void clockPassesZeroAgain(Check check) {
        StatefulFirewall firewall = Clock.at(-5);
        FLOW.lead(firewall, StatefulFirewall.UDP_NEW);
        FLOW.lead(firewall, StatefulFirewall.SYN_SENT);
        check.due("tick(4)", firewall.tick(4), 0);
        check.due("now() below zero", firewall.now(), -1);
        check.due("time left of the SYN", FLOW.timeLeft(firewall, Sample.TCP), 2);
        check.due("tick(1) to zero", firewall.tick(1), 0);
        check.due("now() on zero", firewall.now(), 0);
        check.due("time left of the SYN", FLOW.timeLeft(firewall, Sample.TCP), 1);
        check.due("tick(1) past zero", firewall.tick(1), 1);
        check.due("tick(3)", firewall.tick(3), 0);
        check.due("time left of the UDP flow", FLOW.timeLeft(firewall, Sample.UDP), 1);
        check.due("tick(1)", firewall.tick(1), 1);
        check.due("now()", firewall.now(), 5);
        // An expiry of zero, seen from below.
        StatefulFirewall toZero = Clock.at(-10);
        FLOW.lead(toZero, StatefulFirewall.UDP_NEW);
        check.due("tick(9)", toZero.tick(9), 0);
        check.due("tick(1)", toZero.tick(1), 1);
    }

    private static void expiryOnTheGreatestInt(Check check) {
        for (int state = 1; state <= 9; state++) {
            int timeout = Sample.timeout(state);
            int proto = Sample.protoOfState(state);
            StatefulFirewall firewall = Clock.at(MAX - timeout);
            FLOW.lead(firewall, state);
            check.due("time left of state " + state, FLOW.timeLeft(firewall, proto), timeout);
            check.due("tick to one before", firewall.tick(timeout - 1), 0);
            check.due("time left at one before", FLOW.timeLeft(firewall, proto), 1);
            check.due("tick to the greatest int", firewall.tick(1), 1);
            check.due("connCount()", firewall.connCount(), 0);
        }
    }

    private static void wrappedExpiryHasPassed(Check check) {
        for (int state = 1; state <= 9; state++) {
            int timeout = Sample.timeout(state);
            int proto = Sample.protoOfState(state);
            // One later than before, and the expiry is the least int, which the next now is not below.
            StatefulFirewall firewall = Clock.at(MAX - timeout + 1);
            FLOW.lead(firewall, state);
            check.due("time left of state " + state, FLOW.timeLeft(firewall, proto), timeout);
            check.due("state " + state + " before a tick", FLOW.state(firewall, proto), state);
            check.due("tick(1) with a wrapped expiry", firewall.tick(1), 1);
            check.due("state " + state + " after it", FLOW.state(firewall, proto), StatefulFirewall.NONE);
            check.due("now()", firewall.now(), MAX - timeout + 2);
        }
    }

    private static void expiryAndClockWrapTogether(Check check) {
        for (int state = 1; state <= 9; state++) {
            int timeout = Sample.timeout(state);
            int proto = Sample.protoOfState(state);
            StatefulFirewall firewall = Clock.at(MAX);
            FLOW.lead(firewall, state);
            check.due("time left of state " + state, FLOW.timeLeft(firewall, proto), timeout);
            check.due("tick(1) over the end", firewall.tick(1), 0);
            check.due("time left over the end", FLOW.timeLeft(firewall, proto), timeout - 1);
            check.due("tick to one before", firewall.tick(timeout - 2), 0);
            check.due("tick to the expiry", firewall.tick(1), 1);
        }
    }

    private static void wrappedClockHasNotPassed(Check check) {
        for (int state = 1; state <= 9; state++) {
            int timeout = Sample.timeout(state);
            int proto = Sample.protoOfState(state);
            for (int over = 1; over <= 3; over++) {
                StatefulFirewall firewall = Clock.at(MAX - timeout);
                FLOW.lead(firewall, state);
                check.due("tick over the end", firewall.tick(timeout + over), 0);
                check.due("now()", firewall.now(), MIN + over - 1);
                check.due("state " + state + " over the end", FLOW.state(firewall, proto), state);
                check.due("time left over the end", FLOW.timeLeft(firewall, proto), -over);
                check.due("connCount()", firewall.connCount(), 1);
                check.due("tick(100)", firewall.tick(100), 0);
                check.due("time left further on", FLOW.timeLeft(firewall, proto), -over - 100);
            }
        }
    }

    private static void timeLeftOverAWholeTurn(Check check) {
        StatefulFirewall firewall = Clock.at(MAX - 10);
        FLOW.lead(firewall, StatefulFirewall.UDP_NEW);
        check.due("tick(11)", firewall.tick(11), 0);
        check.due("time left at the least int", FLOW.timeLeft(firewall, Sample.UDP), -1);
        Clock.to(firewall, -2);
        check.due("time left at -2", FLOW.timeLeft(firewall, Sample.UDP), MIN + 1);
        firewall.tick(1);
        check.due("time left at -1", FLOW.timeLeft(firewall, Sample.UDP), MIN);
        firewall.tick(1);
        check.due("time left at 0", FLOW.timeLeft(firewall, Sample.UDP), MAX);
        firewall.tick(1);
        check.due("time left at 1", FLOW.timeLeft(firewall, Sample.UDP), MAX - 1);
        check.due("connCount()", firewall.connCount(), 1);
        Clock.to(firewall, MAX - 1);
        check.due("time left at one before the end", FLOW.timeLeft(firewall, Sample.UDP), 1);
        check.due("tick(1) to the end of the turn", firewall.tick(1), 1);
        check.due("connCount()", firewall.connCount(), 0);
    }

    private static void wrappedExpiryIsSetAnew(Check check) {
        // Past its time by one over the end, the entry is still found, and a packet gives it time again.
        StatefulFirewall late = Clock.at(MAX - 4);
        FLOW.lead(late, StatefulFirewall.TIME_WAIT);
        late.tick(6);
        check.due("time left", FLOW.timeLeft(late, Sample.TCP), -2);
        check.due("ACK", FLOW.tcp(late, 0, Sample.ACK, Sample.nextOrigin(7, 9)), StatefulFirewall.V_PASS);
        check.due("time left anew", FLOW.timeLeft(late, Sample.TCP), 4);
        check.due("tick(3)", late.tick(3), 0);
        check.due("tick(1)", late.tick(1), 1);
        // With a wrapped expiry, a packet that leads to a shorter time keeps the entry over the next tick.
        StatefulFirewall early = Clock.at(MAX - 10);
        FLOW.lead(early, StatefulFirewall.CLOSING);
        check.due("time left of CLOSING", FLOW.timeLeft(early, Sample.TCP), 12);
        check.due("ACK", FLOW.tcp(early, 0, Sample.ACK, Sample.nextOrigin(6, 9)), StatefulFirewall.V_PASS);
        check.due("time left of TIME_WAIT", FLOW.timeLeft(early, Sample.TCP), 4);
        check.due("tick(3)", early.tick(3), 0);
        check.due("tick(1)", early.tick(1), 1);
    }

    private static void refusedTicksNearTheEnd(Check check) {
        StatefulFirewall firewall = Clock.at(MAX);
        FLOW.lead(firewall, StatefulFirewall.UDP_NEW);
        for (int n : Sample.outside(100)) {
            check.due("tick(" + n + ")", firewall.tick(n), StatefulFirewall.BAD);
        }
        check.due("tick(0)", firewall.tick(0), StatefulFirewall.BAD);
        check.due("now()", firewall.now(), MAX);
        check.due("time left", FLOW.timeLeft(firewall, Sample.UDP), 10);
    }
}
