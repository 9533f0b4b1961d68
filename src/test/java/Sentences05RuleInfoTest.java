/** Every sentence of promise 5. */
public final class Sentences05RuleInfoTest {
    private static final int BAD = StatefulFirewall.BAD;

    public static void main(String[] args) {
        Check check = new Check();
        refusesIndicesBesideTheList(check);
        refusesEveryIndexOfAnEmptyList(check);
        refusesPartsBesideTheRule(check);
        indexAndPartAreLookedAtApart(check);
        partsComeInOrder(check);
        answersAsGiven(check);
        asksOnly(check);
        check.end();
    }

    private static StatefulFirewall listOf(int count) {
        StatefulFirewall firewall = Sample.dropAll();
        for (int i = 0; i < count; i++) {
            firewall.addRule(Sample.prefix(i, 4), Sample.prefix(15 - i, 4), Sample.range(i, 15), i % 3 + 4 * (i & 1));
        }
        return firewall;
    }

    private static int stored(int index, int part) {
        int[] rule = {64 + index, 79 - index, 240 + index, index % 3 + 4 * (index & 1)};
        return rule[part];
    }

    private static void refusesIndicesBesideTheList(Check check) {
        check.sentence("ruleInfo(index, part) answers BAD if index is not in 0..count-1");
        for (int count = 1; count <= 16; count++) {
            StatefulFirewall firewall = listOf(count);
            for (int part = 0; part < 4; part++) {
                for (int index : Sample.outside(count - 1)) {
                    check.due("ruleInfo(" + index + ", " + part + ")", firewall.ruleInfo(index, part), BAD);
                }
                check.due("ruleInfo(0, " + part + ")", firewall.ruleInfo(0, part), stored(0, part));
                int last = firewall.ruleInfo(count - 1, part);
                check.due("ruleInfo(" + (count - 1) + ", " + part + ")", last, stored(count - 1, part));
            }
            // The place that a removed rule leaves is beside the list too.
            firewall.removeRule(0);
            check.due("ruleInfo behind a removal", firewall.ruleInfo(count - 1, 0), BAD);
        }
    }

    private static void refusesEveryIndexOfAnEmptyList(Check check) {
        check.sentence("ruleInfo(index, part) answers BAD if index is not in 0..count-1");
        StatefulFirewall firewall = listOf(0);
        for (int index = -17; index <= 17; index++) {
            for (int part = -1; part <= 4; part++) {
                check.due("ruleInfo(" + index + ", " + part + ") of none", firewall.ruleInfo(index, part), BAD);
            }
        }
    }

    private static void refusesPartsBesideTheRule(Check check) {
        check.sentence("or part is not in 0..3");
        StatefulFirewall firewall = listOf(16);
        for (int index = 0; index < 16; index++) {
            check.due("ruleInfo(" + index + ", -1)", firewall.ruleInfo(index, -1), BAD);
            check.due("ruleInfo(" + index + ", 0)", firewall.ruleInfo(index, 0), stored(index, 0));
            check.due("ruleInfo(" + index + ", 3)", firewall.ruleInfo(index, 3), stored(index, 3));
            check.due("ruleInfo(" + index + ", 4)", firewall.ruleInfo(index, 4), BAD);
            for (int part : Sample.outside(3)) {
                check.due("ruleInfo(" + index + ", " + part + ")", firewall.ruleInfo(index, part), BAD);
            }
        }
    }

    private static void indexAndPartAreLookedAtApart(Check check) {
        check.sentence("ruleInfo(index, part) answers BAD if index is not in 0..count-1 or part is not in 0..3");
        StatefulFirewall firewall = listOf(4);
        // Both wrong, so that together they might fall on a stored value.
        for (int index = -40; index <= 40; index++) {
            for (int part = -170; part <= 170; part++) {
                boolean valid = index >= 0 && index < 4 && part >= 0 && part < 4;
                int want = valid ? stored(index, part) : BAD;
                check.due("ruleInfo(" + index + ", " + part + ")", firewall.ruleInfo(index, part), want);
            }
        }
        check.due("ruleInfo(1 << 30, 0)", firewall.ruleInfo(1 << 30, 0), BAD);
        check.due("ruleInfo(MIN, MIN)", firewall.ruleInfo(Sample.MIN, Sample.MIN), BAD);
        check.due("ruleInfo(MAX, MAX)", firewall.ruleInfo(Sample.MAX, Sample.MAX), BAD);
    }

    private static void partsComeInOrder(Check check) {
        check.sentence("Otherwise it answers the stored value of the rule at that index: "
            + "part 0: srcPrefix; part 1: dstPrefix; part 2: portRange; part 3: protoAction.");
        StatefulFirewall firewall = new StatefulFirewall(4, 4, 0);
        int srcPrefix = Sample.prefix(10, 3);
        int dstPrefix = Sample.prefix(7, 4);
        int portRange = Sample.range(2, 11);
        int protoAction = Sample.ACCEPT_UDP;
        firewall.addRule(dstPrefix, srcPrefix, Sample.range(5, 5), Sample.DROP_ANY);
        firewall.addRule(srcPrefix, dstPrefix, portRange, protoAction);
        check.due("ruleInfo(1, 0)", firewall.ruleInfo(1, 0), 58);
        check.due("ruleInfo(1, 1)", firewall.ruleInfo(1, 1), 71);
        check.due("ruleInfo(1, 2)", firewall.ruleInfo(1, 2), 178);
        check.due("ruleInfo(1, 3)", firewall.ruleInfo(1, 3), 5);
        check.due("ruleInfo(0, 0)", firewall.ruleInfo(0, 0), 71);
        check.due("ruleInfo(0, 1)", firewall.ruleInfo(0, 1), 58);
        check.due("ruleInfo(0, 2)", firewall.ruleInfo(0, 2), 85);
        check.due("ruleInfo(0, 3)", firewall.ruleInfo(0, 3), 2);
    }

    private static void answersAsGiven(Check check) {
        check.sentence("Each value is exactly as it was given to addRule.");
        int[][] rules = {{0, 79, 0, 0}, {79, 0, 255, 6}, {16, 24, 240, 1}, {62, 50, 17, 5}};
        StatefulFirewall firewall = new StatefulFirewall(4, 4, 1);
        for (int[] rule : rules) {
            firewall.addRule(rule[0], rule[1], rule[2], rule[3]);
        }
        for (int index = 0; index < 4; index++) {
            for (int part = 0; part < 4; part++) {
                check.due("ruleInfo(" + index + ", " + part + ")", firewall.ruleInfo(index, part), rules[index][part]);
            }
        }
    }

    private static void asksOnly(Check check) {
        check.sentence("The call changes nothing.");
        check.changesNothing("ruleInfo(15, 3)", Places::fullOfSixteen, firewall -> firewall.ruleInfo(15, 3), 6);
        check.changesNothing("ruleInfo(16, 3)", Places::fullOfSixteen, firewall -> firewall.ruleInfo(16, 3), BAD);
        check.changesNothing("ruleInfo(15, 4)", Places::fullOfSixteen, firewall -> firewall.ruleInfo(15, 4), BAD);
        check.changesNothing("ruleInfo(0, 0)", Places::newDropping, firewall -> firewall.ruleInfo(0, 0), BAD);
    }
}
