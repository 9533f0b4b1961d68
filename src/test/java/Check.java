/** Counts and prints the answers that are not the ones due. */
final class Check {
    private int wrong;

    void due(String call, int got, int want) {
        if (got != want) {
            wrong++;
            System.out.println(call + " answered " + got + ", due is " + want);
        }
    }

    void due(String call, boolean got, boolean want) {
        if (got != want) {
            wrong++;
            System.out.println(call + " answered " + got + ", due is " + want);
        }
    }

    void rulesUnchanged(String call, StatefulFirewall firewall, View before) {
        due(call + " left the rules unchanged", View.of(firewall).sameRules(before), true);
    }

    void entriesAndClockUnchanged(String call, StatefulFirewall firewall, View before) {
        due(call + " left entries and clock unchanged", View.of(firewall).sameEntriesAndClock(before), true);
    }

    void unchanged(String call, StatefulFirewall firewall, View before) {
        rulesUnchanged(call, firewall, before);
        entriesAndClockUnchanged(call, firewall, before);
    }

    void end() {
        if (wrong != 0) {
            System.out.println(wrong + " answers are not as due");
            System.exit(1);
        }
    }
}
