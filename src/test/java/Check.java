import java.util.Arrays;
import java.util.function.Supplier;
import java.util.function.ToIntFunction;

/** Counts and prints the answers that are not the ones due. */
final class Check {
    private int wrong;
    private String sentence = "";

    /** The sentence of the document that the answers from here on are due to. */
    void sentence(String words) {
        sentence = " (\"" + words + "\")";
    }

    void due(String call, int got, int want) {
        if (got != want) {
            tell(call + " answered " + got + ", due is " + want);
        }
    }

    void due(String call, boolean got, boolean want) {
        if (got != want) {
            tell(call + " answered " + got + ", due is " + want);
        }
    }

    private void tell(String fault) {
        wrong++;
        System.out.println(fault + sentence);
    }

    /** The call answers as stated, and from then on the firewall is like one that was never called. */
    void changesNothing(String name, Supplier<StatefulFirewall> place, ToIntFunction<StatefulFirewall> call, int want) {
        StatefulFirewall called = place.get();
        due(name, call.applyAsInt(called), want);
        same(name, Future.of(called), Future.of(place.get()));
        // A question that changes something would do so in both futures, so there is one without questions too,
        // and each question comes first for once.
        same(name, Future.unasked(afterCall(place, call)), Future.unasked(place.get()));
        for (int question = 0; question < Future.QUESTIONS; question++) {
            int[] answers = Future.answersTo(question, afterCall(place, call));
            same(name, answers, Future.answersTo(question, place.get()));
        }
    }

    private static StatefulFirewall afterCall(Supplier<StatefulFirewall> place, ToIntFunction<StatefulFirewall> call) {
        StatefulFirewall firewall = place.get();
        call.applyAsInt(firewall);
        return firewall;
    }

    private void same(String name, int[] got, int[] want) {
        due(name + " changes nothing", Arrays.equals(got, want), true);
    }

    /** Asked twice, the firewall answers the same and is like one that was never asked. */
    void asksOnly(String name, Supplier<StatefulFirewall> place, ToIntFunction<StatefulFirewall> question) {
        int answer = question.applyAsInt(place.get());
        changesNothing(name, place, question, answer);
        StatefulFirewall asked = place.get();
        question.applyAsInt(asked);
        due(name + " again", question.applyAsInt(asked), answer);
    }

    void rulesUnchanged(String call, StatefulFirewall firewall, View before) {
        due(call + " left the rules unchanged", View.of(firewall).sameRules(before), true);
    }

    void entriesAndClockUnchanged(String call, StatefulFirewall firewall, View before) {
        due(call + " left entries and clock unchanged", View.of(firewall).sameEntriesAndClock(before), true);
    }

    void unchanged(String call, StatefulFirewall firewall, View before) {
        rulesUnchanged(call, firewall, before);
        entriesAndClockUnchanged(call, firewall, before);
    }

    void end() {
        if (wrong != 0) {
            System.out.println(wrong + " answers are not as due");
            System.exit(1);
        }
    }
}
