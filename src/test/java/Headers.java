import java.util.function.Supplier;

/** What every call that takes a header is due to. */
final class Headers {
    private static final int BAD = StatefulFirewall.BAD;

    private Headers() {
    }

    /** Each part on both sides of its ends, the others being those of a tracked flow. */
    static void refusesInvalid(Check check, HeaderCall call) {
        for (Supplier<StatefulFirewall> place : Places.ALL) {
            for (int edge : new int[] {0, 255}) {
                valid(check, call, place, edge, Sample.PORTS, Sample.TCP);
                valid(check, call, place, Sample.ADDRS, edge, Sample.TCP);
            }
            valid(check, call, place, Sample.ADDRS, Sample.PORTS, Sample.TCP);
            valid(check, call, place, Sample.ADDRS, Sample.PORTS, Sample.UDP);
            for (int wrong : Sample.outside(255)) {
                invalid(check, call, place, wrong, Sample.PORTS, Sample.TCP);
                invalid(check, call, place, Sample.ADDRS, wrong, Sample.UDP);
            }
            for (int wrong : Sample.outside(1)) {
                invalid(check, call, place, Sample.ADDRS, Sample.PORTS, wrong);
            }
            invalid(check, call, place, 256, 256, 2);
            invalid(check, call, place, -1, -1, -1);
        }
    }

    private static void valid(Check check, HeaderCall call, Supplier<StatefulFirewall> place, int addrs, int ports,
            int proto) {
        int got = call.ask(place.get(), addrs, ports, proto);
        check.due(call.told(addrs, ports, proto) + " is BAD", got == BAD, false);
    }

    private static void invalid(Check check, HeaderCall call, Supplier<StatefulFirewall> place, int addrs, int ports,
            int proto) {
        check.changesNothing(call.told(addrs, ports, proto), place,
            firewall -> call.ask(firewall, addrs, ports, proto), BAD);
    }

    /** Asked for a tracked flow, for its reply and for none, the firewall goes on as if it had not been asked. */
    static void asksOnly(Check check, HeaderCall call) {
        int[][] headers = {{Sample.ADDRS, Sample.PORTS}, {Sample.REPLY_ADDRS, Sample.REPLY_PORTS}, {0, 0}, {255, 255}};
        for (Supplier<StatefulFirewall> place : Places.ALL) {
            for (int[] header : headers) {
                for (int proto = 0; proto < 2; proto++) {
                    StatefulFirewall asked = place.get();
                    int first = call.ask(asked, header[0], header[1], proto);
                    String told = call.told(header[0], header[1], proto);
                    check.due(told + " again", call.ask(asked, header[0], header[1], proto), first);
                    check.changedNothing(told, asked, place.get());
                }
            }
        }
    }
}
