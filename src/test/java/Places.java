import java.util.List;
import java.util.function.Supplier;

/** Firewalls at which a call that changes nothing is tried; each is made anew whenever it is asked for. */
final class Places {
    static final List<Supplier<StatefulFirewall>> ALL = List.of(Places::newDropping, Places::newAccepting,
        Sample::busy, Places::fullOfFour, Places::fullOfSixteen);
    static final List<Supplier<StatefulFirewall>> FULL = ALL.subList(3, 5);

    private Places() {
    }

    static StatefulFirewall newDropping() {
        return new StatefulFirewall(4, 4, StatefulFirewall.DROP);
    }

    static StatefulFirewall newAccepting() {
        return new StatefulFirewall(16, 16, StatefulFirewall.ACCEPT);
    }

    /** Four rules and four entries, the least capacity of both, a SYN_SENT among them. */
    static StatefulFirewall fullOfFour() {
        StatefulFirewall firewall = new StatefulFirewall(4, 4, StatefulFirewall.ACCEPT);
        firewall.addRule(Sample.prefix(15, 4), Sample.ALL, Sample.ALL_PORTS, Sample.DROP_ANY);
        firewall.addRule(Sample.ALL, Sample.prefix(8, 3), Sample.range(7, 7), Sample.ACCEPT_ANY);
        firewall.addRule(Sample.ALL, Sample.prefix(8, 3), Sample.range(7, 9), Sample.ACCEPT_ANY);
        firewall.addRule(Sample.ALL, Sample.prefix(0, 1), Sample.range(0, 3), Sample.DROP_UDP);
        firewall.tick(100);
        new Flow(3).lead(firewall, StatefulFirewall.ESTABLISHED);
        new Flow(4).lead(firewall, StatefulFirewall.UDP_NEW);
        firewall.tick(3);
        new Flow(5).lead(firewall, StatefulFirewall.SYN_SENT);
        new Flow(3).lead(firewall, StatefulFirewall.UDP_REPLIED);
        return firewall;
    }

    /** Sixteen rules and sixteen entries, the greatest capacity of both, every state among them. */
    static StatefulFirewall fullOfSixteen() {
        StatefulFirewall firewall = new StatefulFirewall(16, 16, StatefulFirewall.DROP);
        for (int i = 0; i < 15; i++) {
            int action = i % 3 + 4 * (i % 2);
            firewall.addRule(Sample.prefix(i, 4), Sample.prefix(2, 3), Sample.range(i / 2, 15 - i / 2), action);
        }
        firewall.addRule(Sample.ALL, Sample.prefix(9, 4), Sample.ALL_PORTS, Sample.ACCEPT_ANY);
        for (int source = 0; source < 16; source++) {
            new Flow(source).lead(firewall, 1 + source % 9);
            if (source == 7) {
                firewall.tick(1);
            }
        }
        return firewall;
    }
}
