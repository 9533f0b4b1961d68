import java.util.ArrayList;
import java.util.List;

/** A second telling of the document, with lists and objects instead of arrays of ints. */
final class Model {
    static final class Entry {
        int proto;
        int os;
        int osp;
        int od;
        int odp;
        int state;
        int expiry;
        final Integer[] nxt = {null, null};
    }

    private static final int[] TIMEOUT = {0, 6, 6, 40, 12, 12, 12, 4, 10, 30};

    private final int ruleCap;
    private final int connCap;
    private final int defaultAction;
    private final List<int[]> rules = new ArrayList<>();
    private final List<Entry> entries = new ArrayList<>();
    private int now;

    Model(int ruleCap, int connCap, int defaultAction) {
        this.ruleCap = Math.max(4, Math.min(16, ruleCap));
        this.connCap = Math.max(4, Math.min(16, connCap));
        this.defaultAction = Math.max(0, Math.min(1, defaultAction));
    }

    /** As if only accepted ticks had been called until then. */
    void startAt(int now) {
        this.now = now;
    }

    int addRule(int src, int dst, int range, int action) {
        boolean ports = range >= 0 && range < 256 && range % 16 <= range / 16;
        boolean act = action >= 0 && action < 8 && action % 4 != 3;
        if (!prefix(src) || !prefix(dst) || !ports || !act || rules.size() == ruleCap) {
            return -1;
        }
        rules.add(new int[] {src, dst, range, action});
        return rules.size() - 1;
    }

    private static boolean prefix(int value) {
        return value >= 0 && value < 80 && value % 16 % (1 << 4 - value / 16) == 0;
    }

    int removeRule(int index) {
        if (index < 0 || index >= rules.size()) {
            return -1;
        }
        rules.remove(index);
        return rules.size();
    }

    int ruleCount() {
        return rules.size();
    }

    int ruleInfo(int index, int part) {
        return index < 0 || index >= rules.size() || part < 0 || part > 3 ? -1 : rules.get(index)[part];
    }

    private static boolean invalid(int addrs, int ports, int proto) {
        return addrs != (addrs & 255) || ports != (ports & 255) || proto != (proto & 1);
    }

    int classify(int addrs, int ports, int proto) {
        return invalid(addrs, ports, proto) ? -1 : decide(rules, addrs % 16, addrs / 16, ports / 16, proto);
    }

    int matchingRule(int addrs, int ports, int proto) {
        return invalid(addrs, ports, proto) ? -1 : first(rules, addrs % 16, addrs / 16, ports / 16, proto);
    }

    private int decide(List<int[]> list, int src, int dst, int dport, int proto) {
        int index = first(list, src, dst, dport, proto);
        return index < 0 ? defaultAction : list.get(index)[3] / 4;
    }

    private static int first(List<int[]> list, int src, int dst, int dport, int proto) {
        for (int[] rule : list) {
            boolean addresses = covers(rule[0], src) && covers(rule[1], dst);
            boolean port = rule[2] % 16 <= dport && dport <= rule[2] / 16;
            if (addresses && port && (rule[3] % 4 == 2 || rule[3] % 4 == proto)) {
                return list.indexOf(rule);
            }
        }
        return -2;
    }

    private static boolean covers(int prefix, int address) {
        int free = 4 - prefix / 16;
        return address >> free == prefix % 16 >> free;
    }

    boolean shadowed(int index) {
        if (index < 0 || index >= rules.size()) {
            return false;
        }
        List<int[]> earlier = rules.subList(0, index);
        List<int[]> alone = rules.subList(index, index + 1);
        for (int tuple = 0; tuple < 8192; tuple++) {
            int src = tuple & 15;
            int dst = tuple >> 4 & 15;
            int dport = tuple >> 8 & 15;
            int proto = tuple >> 12;
            if (first(alone, src, dst, dport, proto) == 0 && first(earlier, src, dst, dport, proto) < 0) {
                return false;
            }
        }
        return true;
    }

    boolean redundant(int index) {
        if (index < 0 || index >= rules.size()) {
            return false;
        }
        List<int[]> others = new ArrayList<>(rules);
        others.remove(index);
        for (int tuple = 0; tuple < 8192; tuple++) {
            int src = tuple & 15;
            int dst = tuple >> 4 & 15;
            int dport = tuple >> 8 & 15;
            int proto = tuple >> 12;
            if (decide(rules, src, dst, dport, proto) != decide(others, src, dst, dport, proto)) {
                return false;
            }
        }
        return true;
    }

    int packet(int addrs, int ports, int protoFlags, int seq) {
        if (protoFlags != (protoFlags & 31) || seq != (seq & 255) || invalid(addrs, ports, 0)) {
            return -1;
        }
        int proto = protoFlags & 1;
        int flags = protoFlags >> 1;
        if (proto == 1 && flags != 0) {
            return -1;
        }
        Entry entry = find(addrs, ports, proto);
        return entry == null ? untracked(addrs, ports, proto, flags, seq)
            : tracked(entry, direction(entry, addrs, ports), flags, seq);
    }

    private Entry find(int addrs, int ports, int proto) {
        for (Entry entry : entries) {
            if (entry.proto == proto && direction(entry, addrs, ports) >= 0) {
                return entry;
            }
        }
        return null;
    }

    private static int direction(Entry entry, int addrs, int ports) {
        int src = addrs % 16;
        int dst = addrs / 16;
        int sport = ports % 16;
        int dport = ports / 16;
        if (entry.os == src && entry.osp == sport && entry.od == dst && entry.odp == dport) {
            return 0;
        }
        return entry.os == dst && entry.osp == dport && entry.od == src && entry.odp == sport ? 1 : -1;
    }

    private int untracked(int addrs, int ports, int proto, int flags, int seq) {
        if (classify(addrs, ports, proto) == 0) {
            return 0;
        }
        if (proto == 0 && flags != 1) {
            return 3;
        }
        if (entries.size() == connCap) {
            return 4;
        }
        Entry entry = new Entry();
        entry.proto = proto;
        entry.os = addrs % 16;
        entry.od = addrs / 16;
        entry.osp = ports % 16;
        entry.odp = ports / 16;
        entry.state = proto == 0 ? 1 : 8;
        entry.expiry = now + TIMEOUT[entry.state];
        entry.nxt[0] = proto == 0 ? (seq + 1) % 256 : null;
        entries.add(entry);
        return 1;
    }

    private int tracked(Entry entry, int d, int flags, int seq) {
        if (entry.proto == 1) {
            return pass(entry, d == 1 ? 9 : entry.state);
        }
        boolean window = entry.nxt[d] != null && Math.floorMod(seq - entry.nxt[d], 256) < 32;
        boolean again = entry.nxt[d] != null && seq == Math.floorMod(entry.nxt[d] - 1, 256);
        if (flags >= 8) {
            if (entry.state == 1 && d == 1 || window) {
                entries.remove(entry);
                return 5;
            }
            return 3;
        }
        int state = follow(entry.state + "/" + d + "/" + flags, window, again);
        if (state < 0) {
            return 3;
        }
        entry.nxt[d] = (seq + 1) % 256;
        return pass(entry, state);
    }

    /** The rows of the document as state/direction/flags; ACK is 2, SYN+ACK 3 and ACK+FIN 6. */
    private static int follow(String row, boolean window, boolean again) {
        switch (row) {
            case "1/0/1": return again ? 1 : -1;
            case "1/1/3": return 2;
            case "2/1/3": return again ? 2 : -1;
            case "2/0/2": return window ? 3 : -1;
            case "3/0/2": case "3/1/2": return window ? 3 : -1;
            case "3/0/6": return window ? 4 : -1;
            case "3/1/6": return window ? 5 : -1;
            case "4/0/2": case "4/1/2": case "4/0/6": return window ? 4 : -1;
            case "4/1/6": return window ? 6 : -1;
            case "5/0/2": case "5/1/2": case "5/1/6": return window ? 5 : -1;
            case "5/0/6": return window ? 6 : -1;
            case "6/0/2": case "6/1/2": return window ? 7 : -1;
            case "6/0/6": case "6/1/6": return window ? 6 : -1;
            case "7/0/2": case "7/1/2": case "7/0/6": case "7/1/6": return window ? 7 : -1;
            default: return -1;
        }
    }

    private int pass(Entry entry, int state) {
        entry.state = state;
        entry.expiry = now + TIMEOUT[state];
        return 2;
    }

    int tick(int n) {
        if (n < 1 || n > 100) {
            return -1;
        }
        now += n;
        int before = entries.size();
        entries.removeIf(entry -> entry.expiry <= now);
        return before - entries.size();
    }

    int now() {
        return now;
    }

    int connCount() {
        return entries.size();
    }

    /** What the four questions about an entry answer: 0 state, 1 direction, 2 time left, 3 next number. */
    int conn(int question, int addrs, int ports, int proto) {
        if (invalid(addrs, ports, proto)) {
            return -1;
        }
        Entry entry = find(addrs, ports, proto);
        if (entry == null) {
            return question == 0 ? 0 : -2;
        }
        int d = direction(entry, addrs, ports);
        switch (question) {
            case 0: return entry.state;
            case 1: return d;
            case 2: return entry.expiry - now;
            default: return entry.nxt[d] == null ? -2 : entry.nxt[d];
        }
    }
}
