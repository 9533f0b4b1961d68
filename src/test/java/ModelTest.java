/** Long runs of calls, each answered by the firewall as by the model. */
public final class ModelTest {
    private static final int RUNS = 3000;
    private static final int CALLS = 400;
    // Leading the clock to the end of the ints takes time, so fewer runs begin there.
    private static final int LATE_RUNS = 40;
    private static final int[] WILD = {Sample.MIN, -256, -17, -16, -3, -2, -1, 80, 101, 256, 257, 65536, Sample.MAX};
    // The flags that lead on come oftener than the others.
    private static final int[] FLAGS = {1, 3, 2, 2, 6, 6, 8};

    private final Check check = new Check();
    private final Numbers numbers;
    private final StatefulFirewall firewall;
    private final Model model;
    private final String run;

    private ModelTest(int seed) {
        numbers = new Numbers(seed);
        int ruleCap = numbers.below(22) - 3;
        int connCap = numbers.below(22) - 3;
        int defaultAction = numbers.below(4) - 1;
        run = "run " + seed + ": ";
        firewall = new StatefulFirewall(ruleCap, connCap, defaultAction);
        model = new Model(ruleCap, connCap, defaultAction);
    }

    public static void main(String[] args) {
        for (int seed = 0; seed < RUNS; seed++) {
            new ModelTest(seed).go();
        }
        for (int seed = RUNS; seed < RUNS + LATE_RUNS; seed++) {
            ModelTest test = new ModelTest(seed);
            test.startAt(Sample.MAX - test.numbers.below(120));
            test.go();
        }
    }

    private void startAt(int now) {
        Clock.to(firewall, now);
        model.startAt(now);
    }

    private void go() {
        for (int call = 0; call < CALLS; call++) {
            call();
        }
        check.end();
    }

    private void call() {
        int kind = numbers.below(100);
        if (kind < 8) {
            addRule();
        } else if (kind < 11) {
            int index = number(16);
            due("removeRule(" + index + ")", firewall.removeRule(index), model.removeRule(index));
        } else if (kind < 70) {
            packet();
        } else if (kind < 76) {
            int n = number(numbers.below(4) == 0 ? 45 : 5);
            due("tick(" + n + ")", firewall.tick(n), model.tick(n));
        } else if (kind < 77) {
            judge();
        } else {
            ask();
        }
        due("ruleCount()", firewall.ruleCount(), model.ruleCount());
        due("connCount()", firewall.connCount(), model.connCount());
        due("now()", firewall.now(), model.now());
    }

    private void due(String call, int got, int want) {
        check.due(run + call, got, want);
    }

    /** Mostly a number below the bound, now and then a wild one. */
    private int number(int bound) {
        return numbers.below(40) == 0 ? WILD[numbers.below(WILD.length)] : numbers.below(bound);
    }

    /** Mostly one of few pairs, so that packets meet entries from both sides. */
    private int pair() {
        if (numbers.below(10) == 0) {
            return number(256);
        }
        return 1 + numbers.below(2) + 16 * (1 + numbers.below(2));
    }

    private void addRule() {
        int src = number(80);
        int dst = numbers.below(2) == 0 ? 0 : number(80);
        int range = numbers.below(2) == 0 ? 240 : number(256);
        int action = number(8);
        String call = "addRule(" + src + ", " + dst + ", " + range + ", " + action + ")";
        due(call, firewall.addRule(src, dst, range, action), model.addRule(src, dst, range, action));
    }

    private void packet() {
        int addrs = pair();
        int ports = pair();
        int protoFlags = numbers.below(5) == 0 ? number(32) : 2 * FLAGS[numbers.below(FLAGS.length)];
        if (numbers.below(5) == 0) {
            protoFlags = 1;
        }
        int next = model.conn(3, addrs, ports, 0);
        int seq = next < 0 || numbers.below(6) == 0 ? number(256) : next + numbers.below(36) - 2 & 255;
        String call = "packet(" + addrs + ", " + ports + ", " + protoFlags + ", " + seq + ")";
        due(call, firewall.packet(addrs, ports, protoFlags, seq), model.packet(addrs, ports, protoFlags, seq));
        int proto = protoFlags & 1;
        askConn(addrs, ports, proto);
    }

    private void ask() {
        int addrs = pair();
        int ports = pair();
        int proto = number(2);
        String header = "(" + addrs + ", " + ports + ", " + proto + ")";
        due("classify" + header, firewall.classify(addrs, ports, proto), model.classify(addrs, ports, proto));
        due("matchingRule" + header, firewall.matchingRule(addrs, ports, proto), model.matchingRule(addrs, ports, proto));
        askConn(addrs, ports, proto);
        int index = number(17);
        int part = number(5);
        due("ruleInfo(" + index + ", " + part + ")", firewall.ruleInfo(index, part), model.ruleInfo(index, part));
    }

    private void askConn(int addrs, int ports, int proto) {
        String header = "(" + addrs + ", " + ports + ", " + proto + ")";
        due("connState" + header, firewall.connState(addrs, ports, proto), model.conn(0, addrs, ports, proto));
        due("connDirection" + header, firewall.connDirection(addrs, ports, proto), model.conn(1, addrs, ports, proto));
        due("connTimeLeft" + header, firewall.connTimeLeft(addrs, ports, proto), model.conn(2, addrs, ports, proto));
        due("connNextSeq" + header, firewall.connNextSeq(addrs, ports, proto), model.conn(3, addrs, ports, proto));
    }

    private void judge() {
        int index = number(model.ruleCount() + 1);
        check.due(run + "shadowed(" + index + ")", firewall.shadowed(index), model.shadowed(index));
        check.due(run + "redundant(" + index + ")", firewall.redundant(index), model.redundant(index));
    }
}
