import java.util.Arrays;
import java.util.function.Supplier;
import java.util.function.ToIntFunction;

/** Counts and prints the answers that are not the ones due. */
final class Check {
    private int wrong;
    private String sentence = "";

    /** The sentence of the document that the answers from here on are due to. */
    void sentence(String words) {
        sentence = " (\"" + words + "\")";
    }

    void due(String call, int got, int want) {
        if (got != want) {
            tell(call + " answered " + got + ", due is " + want);
        }
    }

    void due(String call, boolean got, boolean want) {
        if (got != want) {
            tell(call + " answered " + got + ", due is " + want);
        }
    }

    private void tell(String fault) {
        wrong++;
        System.out.println(fault + sentence);
    }

    /** The call answers as stated, and from then on the firewall is like one that was never called. */
    void changesNothing(String name, Supplier<StatefulFirewall> place, ToIntFunction<StatefulFirewall> call, int want) {
        StatefulFirewall called = place.get();
        due(name, call.applyAsInt(called), want);
        changedNothing(name, called, place.get());
    }

    void changedNothing(String name, StatefulFirewall called, StatefulFirewall untouched) {
        due(name + " changes nothing", Arrays.equals(Future.of(called), Future.of(untouched)), true);
    }

    void rulesUnchanged(String call, StatefulFirewall firewall, View before) {
        due(call + " left the rules unchanged", View.of(firewall).sameRules(before), true);
    }

    void entriesAndClockUnchanged(String call, StatefulFirewall firewall, View before) {
        due(call + " left entries and clock unchanged", View.of(firewall).sameEntriesAndClock(before), true);
    }

    void unchanged(String call, StatefulFirewall firewall, View before) {
        rulesUnchanged(call, firewall, before);
        entriesAndClockUnchanged(call, firewall, before);
    }

    void end() {
        if (wrong != 0) {
            System.out.println(wrong + " answers are not as due");
            System.exit(1);
        }
    }
}
