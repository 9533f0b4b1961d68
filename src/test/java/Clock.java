/** Leads a firewall's clock to where it is wanted. */
final class Clock {
    private Clock() {
    }

    /** Ticks until now is the target, over the end of the ints where it lies behind. */
    static void to(StatefulFirewall firewall, int target) {
        long units = Integer.toUnsignedLong(target - firewall.now());
        for (long i = 0; i < units / 100; i++) {
            firewall.tick(100);
        }
        if (units % 100 != 0) {
            firewall.tick((int) (units % 100));
        }
    }

    /** A new firewall that accepts by default, with its clock on the target. */
    static StatefulFirewall at(int target) {
        StatefulFirewall firewall = Sample.acceptAll();
        to(firewall, target);
        return firewall;
    }
}
