/** An ordered first-match packet filter with connection tracking. README.md tells how it is used. */
public final class StatefulFirewall {
    public static final int BAD = -1;
    public static final int NO_MATCH = -2;
    public static final int DROP = 0;
    public static final int ACCEPT = 1;
    public static final int TCP = 0;
    public static final int UDP = 1;
    public static final int ANY = 2;
    public static final int SYN = 1;
    public static final int ACK = 2;
    public static final int FIN = 4;
    public static final int RST = 8;
    public static final int WINDOW = 32;
    public static final int V_DROP = 0;
    public static final int V_NEW = 1;
    public static final int V_PASS = 2;
    public static final int V_INVALID = 3;
    public static final int V_FULL = 4;
    public static final int V_CLOSED = 5;
    public static final int NONE = 0;
    public static final int SYN_SENT = 1;
    public static final int SYN_RECV = 2;
    public static final int ESTABLISHED = 3;
    public static final int FIN_ORIG = 4;
    public static final int FIN_REPLY = 5;
    public static final int CLOSING = 6;
    public static final int TIME_WAIT = 7;
    public static final int UDP_NEW = 8;
    public static final int UDP_REPLIED = 9;
    public static final int T_SYN_SENT = 6;
    public static final int T_SYN_RECV = 6;
    public static final int T_ESTABLISHED = 40;
    public static final int T_FIN = 12;
    public static final int T_CLOSING = 12;
    public static final int T_TIME_WAIT = 4;
    public static final int T_UDP_NEW = 10;
    public static final int T_UDP_REPLIED = 30;

    private static final int LEAST_CAP = 4;
    private static final int GREATEST_CAP = 16;

    private static final int RULE_PARTS = 4;
    private static final int SRC_PREFIX = 0;
    private static final int DST_PREFIX = 1;
    private static final int PORT_RANGE = 2;
    private static final int PROTO_ACTION = 3;
    private static final int RULE_CELLS = GREATEST_CAP * RULE_PARTS;

    private static final int DIRECTIONS = 2;
    private static final int ORIGIN = 0;
    private static final int REPLY = 1;
    private static final int SEQ_CELLS = GREATEST_CAP * DIRECTIONS;

    // Two addresses, two ports, or an address and a prefix length share one int: low + PAIR * high.
    private static final int PAIR = 16;
    private static final int ADDRESS_BITS = 4;
    private static final int GREATEST_PAIR = 255;
    private static final int GREATEST_PREFIX = 79;
    private static final int GREATEST_PROTO_ACTION = 7;
    private static final int ACTION_UNIT = 4;
    private static final int GREATEST_PROTO_FLAGS = 31;
    private static final int FLAGS_UNIT = 2;
    private static final int GREATEST_SEQ = 255;
    private static final int GREATEST_TICK = 100;

    // A tuple of the rule domain is numbered addrs + TUPLE_PORT * dport + TUPLE_PROTO * proto.
    private static final int RULE_DOMAIN = 8192;
    private static final int TUPLE_PORT = 256;
    private static final int TUPLE_PROTO = 4096;

    private static final int NO_RULE = -1;
    private static final int NOT_FOUND = -1;
    private static final int UNSET = -1;

    private final int ruleCap;
    private final int connCap;
    private final int defaultAction;

    // Part p of rule i stands at RULE_PARTS * i + p.
    private final int[] rules = new int[RULE_CELLS];
    private int rulesHeld;

    // The entries fill the slots 0..entriesHeld-1 without a gap.
    private final int[] entryProto = new int[GREATEST_CAP];
    private final int[] entryAddrs = new int[GREATEST_CAP];
    private final int[] entryPorts = new int[GREATEST_CAP];
    private final int[] entryState = new int[GREATEST_CAP];
    private final int[] entryExpiry = new int[GREATEST_CAP];
    // Direction d of a slot stands at DIRECTIONS * slot + d, the number that lookup answers.
    // A UDP entry keeps both UNSET, so that it needs no case of its own.
    private final int[] entryNextSeq = new int[SEQ_CELLS];
    private int entriesHeld;

    private int clock;

    public StatefulFirewall(int ruleCap, int connCap, int defaultAction) {
        this.ruleCap = clamp(ruleCap, LEAST_CAP, GREATEST_CAP);
        this.connCap = clamp(connCap, LEAST_CAP, GREATEST_CAP);
        this.defaultAction = clamp(defaultAction, DROP, ACCEPT);
    }

    public int addRule(int srcPrefix, int dstPrefix, int portRange, int protoAction) {
        if (!validPrefix(srcPrefix) || !validPrefix(dstPrefix)) {
            return BAD;
        }
        if (!validPortRange(portRange) || !validProtoAction(protoAction)) {
            return BAD;
        }
        if (rulesHeld >= ruleCap) {
            return BAD;
        }
        int index = rulesHeld;
        int base = RULE_PARTS * index;
        rules[base + SRC_PREFIX] = srcPrefix;
        rules[base + DST_PREFIX] = dstPrefix;
        rules[base + PORT_RANGE] = portRange;
        rules[base + PROTO_ACTION] = protoAction;
        rulesHeld = index + 1;
        return index;
    }

    public int removeRule(int index) {
        if (!holdsRule(index)) {
            return BAD;
        }
        rulesHeld--;
        int end = RULE_PARTS * rulesHeld;
        for (int cell = RULE_PARTS * index; cell < end; cell++) {
            rules[cell] = rules[cell + RULE_PARTS];
        }
        return rulesHeld;
    }

    public int ruleCount() {
        return rulesHeld;
    }

    public int ruleInfo(int index, int part) {
        if (!holdsRule(index) || !inRange(part, RULE_PARTS - 1)) {
            return BAD;
        }
        return rules[RULE_PARTS * index + part];
    }

    public int classify(int addrs, int ports, int proto) {
        if (!validHeader(addrs, ports, proto)) {
            return BAD;
        }
        return decision(addrs, ports, proto);
    }

    public int matchingRule(int addrs, int ports, int proto) {
        if (!validHeader(addrs, ports, proto)) {
            return BAD;
        }
        return firstMatch(addrs, ports / PAIR, proto, NO_RULE);
    }

    public boolean shadowed(int index) {
        if (!holdsRule(index)) {
            return false;
        }
        for (int tuple = 0; tuple < RULE_DOMAIN; tuple++) {
            if (firstMatchOfTuple(tuple, NO_RULE) == index) {
                return false;
            }
        }
        return true;
    }

    public boolean redundant(int index) {
        if (!holdsRule(index)) {
            return false;
        }
        for (int tuple = 0; tuple < RULE_DOMAIN; tuple++) {
            int deciding = firstMatchOfTuple(tuple, NO_RULE);
            int decidingWithout = firstMatchOfTuple(tuple, index);
            if (actionOf(deciding) != actionOf(decidingWithout)) {
                return false;
            }
        }
        return true;
    }

    public int packet(int addrs, int ports, int protoFlags, int seq) {
        if (!inRange(protoFlags, GREATEST_PROTO_FLAGS) || !inRange(seq, GREATEST_SEQ)) {
            return BAD;
        }
        int proto = protoFlags % FLAGS_UNIT;
        int flags = protoFlags / FLAGS_UNIT;
        if (!validHeader(addrs, ports, proto)) {
            return BAD;
        }
        if (proto == UDP && flags != 0) {
            return BAD;
        }
        int found = lookup(addrs, ports, proto);
        if (found == NOT_FOUND) {
            int verdict = verdictOnUntracked(addrs, ports, proto, flags);
            if (verdict == V_NEW) {
                createEntry(addrs, ports, proto, seq);
            }
            return verdict;
        }
        if (proto == UDP) {
            return packetOfUdpEntry(found);
        }
        if ((flags & RST) != 0) {
            return resetOfTcpEntry(found, seq);
        }
        return packetOfTcpEntry(found, flags, seq);
    }

    public int tick(int n) {
        if (n < 1 || n > GREATEST_TICK) {
            return BAD;
        }
        clock += n;
        int heldBefore = entriesHeld;
        // Downwards, because removal fills the slot with the last entry, which has then been looked at.
        for (int slot = heldBefore - 1; slot >= 0; slot--) {
            if (entryExpiry[slot] <= clock) {
                removeEntry(slot);
            }
        }
        return heldBefore - entriesHeld;
    }

    public int now() {
        return clock;
    }

    public int connCount() {
        return entriesHeld;
    }

    public int connState(int addrs, int ports, int proto) {
        if (!validHeader(addrs, ports, proto)) {
            return BAD;
        }
        int found = lookup(addrs, ports, proto);
        return found == NOT_FOUND ? NONE : entryState[found / DIRECTIONS];
    }

    public int connDirection(int addrs, int ports, int proto) {
        if (!validHeader(addrs, ports, proto)) {
            return BAD;
        }
        int found = lookup(addrs, ports, proto);
        return found == NOT_FOUND ? NO_MATCH : found % DIRECTIONS;
    }

    public int connTimeLeft(int addrs, int ports, int proto) {
        if (!validHeader(addrs, ports, proto)) {
            return BAD;
        }
        int found = lookup(addrs, ports, proto);
        return found == NOT_FOUND ? NO_MATCH : entryExpiry[found / DIRECTIONS] - clock;
    }

    public int connNextSeq(int addrs, int ports, int proto) {
        if (!validHeader(addrs, ports, proto)) {
            return BAD;
        }
        int found = lookup(addrs, ports, proto);
        if (found == NOT_FOUND || entryNextSeq[found] == UNSET) {
            return NO_MATCH;
        }
        return entryNextSeq[found];
    }

    private static int clamp(int value, int least, int greatest) {
        if (value < least) {
            return least;
        }
        return value > greatest ? greatest : value;
    }

    private static boolean inRange(int value, int greatest) {
        return value >= 0 && value <= greatest;
    }

    private static boolean validHeader(int addrs, int ports, int proto) {
        return inRange(addrs, GREATEST_PAIR) && inRange(ports, GREATEST_PAIR) && inRange(proto, UDP);
    }

    private static boolean validPrefix(int prefix) {
        if (!inRange(prefix, GREATEST_PREFIX)) {
            return false;
        }
        int freeBits = ADDRESS_BITS - prefix / PAIR;
        return prefix % PAIR % (1 << freeBits) == 0;
    }

    private static boolean validPortRange(int portRange) {
        return inRange(portRange, GREATEST_PAIR) && portRange % PAIR <= portRange / PAIR;
    }

    private static boolean validProtoAction(int protoAction) {
        return inRange(protoAction, GREATEST_PROTO_ACTION) && protoAction % ACTION_UNIT <= ANY;
    }

    private boolean holdsRule(int index) {
        return inRange(index, rulesHeld - 1);
    }

    private int decision(int addrs, int ports, int proto) {
        int index = firstMatch(addrs, ports / PAIR, proto, NO_RULE);
        return actionOf(index);
    }

    private int actionOf(int index) {
        return index == NO_MATCH ? defaultAction : rules[RULE_PARTS * index + PROTO_ACTION] / ACTION_UNIT;
    }

    private int firstMatchOfTuple(int tuple, int leftOut) {
        int addrs = tuple % TUPLE_PORT;
        int dport = tuple / TUPLE_PORT % PAIR;
        int proto = tuple / TUPLE_PROTO;
        return firstMatch(addrs, dport, proto, leftOut);
    }

    /** The lowest matching index of the list without the rule leftOut; NO_RULE leaves none out. */
    private int firstMatch(int addrs, int dport, int proto, int leftOut) {
        for (int index = 0; index < rulesHeld; index++) {
            if (index != leftOut && ruleMatches(index, addrs, dport, proto)) {
                return index;
            }
        }
        return NO_MATCH;
    }

    private boolean ruleMatches(int index, int addrs, int dport, int proto) {
        int base = RULE_PARTS * index;
        return prefixMatches(rules[base + SRC_PREFIX], addrs % PAIR)
            && prefixMatches(rules[base + DST_PREFIX], addrs / PAIR)
            && portMatches(rules[base + PORT_RANGE], dport)
            && protoMatches(rules[base + PROTO_ACTION], proto);
    }

    private static boolean prefixMatches(int prefix, int address) {
        int freeBits = ADDRESS_BITS - prefix / PAIR;
        return address >> freeBits == (prefix % PAIR) >> freeBits;
    }

    private static boolean portMatches(int portRange, int port) {
        return portRange % PAIR <= port && port <= portRange / PAIR;
    }

    private static boolean protoMatches(int protoAction, int proto) {
        int ruleProto = protoAction % ACTION_UNIT;
        return ruleProto == ANY || ruleProto == proto;
    }

    /** DIRECTIONS * slot + direction of the entry found, or NOT_FOUND. */
    private int lookup(int addrs, int ports, int proto) {
        int slot = slotOfOrigin(addrs, ports, proto);
        if (slot != NOT_FOUND) {
            return DIRECTIONS * slot + ORIGIN;
        }
        int swappedAddrs = swapPair(addrs);
        int swappedPorts = swapPair(ports);
        slot = slotOfOrigin(swappedAddrs, swappedPorts, proto);
        return slot == NOT_FOUND ? NOT_FOUND : DIRECTIONS * slot + REPLY;
    }

    private int slotOfOrigin(int addrs, int ports, int proto) {
        for (int slot = 0; slot < entriesHeld; slot++) {
            if (entryAddrs[slot] == addrs && entryPorts[slot] == ports && entryProto[slot] == proto) {
                return slot;
            }
        }
        return NOT_FOUND;
    }

    private static int swapPair(int pair) {
        return pair / PAIR + PAIR * (pair % PAIR);
    }

    private int verdictOnUntracked(int addrs, int ports, int proto, int flags) {
        if (decision(addrs, ports, proto) == DROP) {
            return V_DROP;
        }
        if (proto == TCP && flags != SYN) {
            return V_INVALID;
        }
        return entriesHeld >= connCap ? V_FULL : V_NEW;
    }

    private void createEntry(int addrs, int ports, int proto, int seq) {
        int slot = entriesHeld;
        entriesHeld = slot + 1;
        entryProto[slot] = proto;
        entryAddrs[slot] = addrs;
        entryPorts[slot] = ports;
        entryNextSeq[DIRECTIONS * slot + ORIGIN] = proto == TCP ? seqAfter(seq) : UNSET;
        entryNextSeq[DIRECTIONS * slot + REPLY] = UNSET;
        enterState(slot, proto == TCP ? SYN_SENT : UDP_NEW);
    }

    private void removeEntry(int slot) {
        int last = entriesHeld - 1;
        entriesHeld = last;
        entryProto[slot] = entryProto[last];
        entryAddrs[slot] = entryAddrs[last];
        entryPorts[slot] = entryPorts[last];
        entryState[slot] = entryState[last];
        entryExpiry[slot] = entryExpiry[last];
        entryNextSeq[DIRECTIONS * slot + ORIGIN] = entryNextSeq[DIRECTIONS * last + ORIGIN];
        entryNextSeq[DIRECTIONS * slot + REPLY] = entryNextSeq[DIRECTIONS * last + REPLY];
    }

    private void enterState(int slot, int state) {
        entryState[slot] = state;
        entryExpiry[slot] = clock + timeout(state);
    }

    private static int timeout(int state) {
        switch (state) {
            case SYN_SENT: return T_SYN_SENT;
            case SYN_RECV: return T_SYN_RECV;
            case ESTABLISHED: return T_ESTABLISHED;
            case FIN_ORIG: return T_FIN;
            case FIN_REPLY: return T_FIN;
            case CLOSING: return T_CLOSING;
            case TIME_WAIT: return T_TIME_WAIT;
            case UDP_NEW: return T_UDP_NEW;
            default: return T_UDP_REPLIED;
        }
    }

    private int packetOfUdpEntry(int found) {
        int slot = found / DIRECTIONS;
        enterState(slot, found % DIRECTIONS == REPLY ? UDP_REPLIED : entryState[slot]);
        return V_PASS;
    }

    private int resetOfTcpEntry(int found, int seq) {
        int slot = found / DIRECTIONS;
        boolean refusedByPeer = entryState[slot] == SYN_SENT && found % DIRECTIONS == REPLY;
        if (refusedByPeer || inWindow(seq, entryNextSeq[found])) {
            removeEntry(slot);
            return V_CLOSED;
        }
        return V_INVALID;
    }

    private int packetOfTcpEntry(int found, int flags, int seq) {
        int slot = found / DIRECTIONS;
        int state = stateAfter(entryState[slot], found % DIRECTIONS, flags, seq, entryNextSeq[found]);
        if (state == NONE) {
            return V_INVALID;
        }
        entryNextSeq[found] = seqAfter(seq);
        enterState(slot, state);
        return V_PASS;
    }

    /** The state that an accepted TCP packet leads to, or NONE for a packet that is invalid in its state. */
    private static int stateAfter(int state, int direction, int flags, int seq, int next) {
        if (state == SYN_SENT) {
            return stateAfterSynSent(direction, flags, seq, next);
        }
        if (state == SYN_RECV) {
            return stateAfterSynRecv(direction, flags, seq, next);
        }
        if (!inWindow(seq, next)) {
            return NONE;
        }
        if (flags == ACK) {
            return state == CLOSING ? TIME_WAIT : state;
        }
        return flags == ACK + FIN ? stateAfterFin(state, direction) : NONE;
    }

    private static int stateAfterSynSent(int direction, int flags, int seq, int next) {
        if (direction == ORIGIN) {
            return flags == SYN && retransmits(seq, next) ? SYN_SENT : NONE;
        }
        return flags == SYN + ACK ? SYN_RECV : NONE;
    }

    private static int stateAfterSynRecv(int direction, int flags, int seq, int next) {
        if (direction == ORIGIN) {
            return flags == ACK && inWindow(seq, next) ? ESTABLISHED : NONE;
        }
        return flags == SYN + ACK && retransmits(seq, next) ? SYN_RECV : NONE;
    }

    private static int stateAfterFin(int state, int direction) {
        int ownFin = direction == ORIGIN ? FIN_ORIG : FIN_REPLY;
        int peerFin = direction == ORIGIN ? FIN_REPLY : FIN_ORIG;
        if (state == ESTABLISHED) {
            return ownFin;
        }
        return state == peerFin ? CLOSING : state;
    }

    private static boolean inWindow(int seq, int next) {
        return ((seq - next) & GREATEST_SEQ) < WINDOW;
    }

    private static boolean retransmits(int seq, int next) {
        return seq == ((next + GREATEST_SEQ) & GREATEST_SEQ);
    }

    private static int seqAfter(int seq) {
        return (seq + 1) & GREATEST_SEQ;
    }
}
