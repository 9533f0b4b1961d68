import java.util.function.Supplier;

/** What every call that takes a header is due to. */
final class Headers {
    private static final int BAD = StatefulFirewall.BAD;

    private Headers() {
    }

    /** Each part on both sides of its ends, the others being those of a tracked flow. */
    static void refusesInvalid(Check check, HeaderCall call) {
        for (Supplier<StatefulFirewall> place : Places.ALL) {
            for (int edge : new int[] {0, 255}) {
                valid(check, call, place, edge, Sample.PORTS, Sample.TCP);
                valid(check, call, place, Sample.ADDRS, edge, Sample.TCP);
            }
            valid(check, call, place, Sample.ADDRS, Sample.PORTS, Sample.TCP);
            valid(check, call, place, Sample.ADDRS, Sample.PORTS, Sample.UDP);
            for (int wrong : Sample.outside(255)) {
                invalid(check, call, place, wrong, Sample.PORTS, Sample.TCP);
                invalid(check, call, place, Sample.ADDRS, wrong, Sample.UDP);
            }
            for (int wrong : Sample.outside(1)) {
                invalid(check, call, place, Sample.ADDRS, Sample.PORTS, wrong);
            }
            invalid(check, call, place, 256, 256, 2);
            invalid(check, call, place, -1, -1, -1);
        }
    }

    private static void valid(Check check, HeaderCall call, Supplier<StatefulFirewall> place, int addrs, int ports,
            int proto) {
        int got = call.ask(place.get(), addrs, ports, proto);
        check.due(call.told(addrs, ports, proto) + " is BAD", got == BAD, false);
    }

    private static void invalid(Check check, HeaderCall call, Supplier<StatefulFirewall> place, int addrs, int ports,
            int proto) {
        check.changesNothing(call.told(addrs, ports, proto), place,
            firewall -> call.ask(firewall, addrs, ports, proto), BAD);
    }

    /** Asked for flows in every state, for their replies and for none, the firewall goes on as if it had not been. */
    static void asksOnly(Check check, HeaderCall call) {
        for (Supplier<StatefulFirewall> place : Places.ALL) {
            asksOnly(check, call, place, 0, 0);
            asksOnly(check, call, place, 255, 255);
            for (int direction = 0; direction < 2; direction++) {
                asksOnly(check, call, place, Sample.FLOW.addrs(direction), Sample.FLOW.ports(direction));
            }
        }
        for (int source = 0; source < 16; source++) {
            Flow flow = new Flow(source);
            asksOnly(check, call, Places::fullOfSixteen, flow.addrs(0), flow.ports(0));
            asksOnly(check, call, Places::fullOfSixteen, flow.addrs(1), flow.ports(1));
        }
    }

    private static void asksOnly(Check check, HeaderCall call, Supplier<StatefulFirewall> place, int addrs, int ports) {
        check.asksOnly(call.told(addrs, ports, 0), place, firewall -> call.ask(firewall, addrs, ports, 0));
        check.asksOnly(call.told(addrs, ports, 1), place, firewall -> call.ask(firewall, addrs, ports, 1));
    }
}
