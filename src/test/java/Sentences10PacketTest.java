import java.util.function.Supplier;

/** Every sentence of promise 10 on its steps 1 and 3. */
public final class Sentences10PacketTest {
    private static final int BAD = StatefulFirewall.BAD;
    private static final int V_DROP = StatefulFirewall.V_DROP;
    private static final int V_NEW = StatefulFirewall.V_NEW;
    private static final int V_PASS = StatefulFirewall.V_PASS;
    private static final int V_INVALID = StatefulFirewall.V_INVALID;
    private static final int V_FULL = StatefulFirewall.V_FULL;
    private static final int V_CLOSED = StatefulFirewall.V_CLOSED;
    private static final int SYN = Sample.tcp(StatefulFirewall.SYN);
    private static final int ACK = Sample.tcp(StatefulFirewall.ACK);

    public static void main(String[] args) {
        Check check = new Check();
        addrsAreWithin255(check);
        portsAreWithin255(check);
        protoFlagsAreWithin31(check);
        seqIsWithin255(check);
        udpHasNoFlags(check);
        refusalComesFirst(check);
        dropDecidesBeforeAllElse(check);
        onlySynOpens(check);
        fullTableIsAskedAfterTheFlags(check);
        tableIsFullAtTheCapacity(check);
        roomComesBack(check);
        newEntryIsOfThePacket(check);
        numberAfter255IsZero(check);
        expiryIsFromNow(check);
        refusedVerdictsChangeNothing(check);
        rulesAndClockStay(check);
        check.end();
    }

    private static void refused(Check check, int addrs, int ports, int protoFlags, int seq) {
        String call = "packet(" + addrs + ", " + ports + ", " + protoFlags + ", " + seq + ")";
        for (Supplier<StatefulFirewall> place : Places.ALL) {
            check.changesNothing(call, place, firewall -> firewall.packet(addrs, ports, protoFlags, seq), BAD);
        }
    }

    private static void taken(Check check, int addrs, int ports, int protoFlags, int seq) {
        String call = "packet(" + addrs + ", " + ports + ", " + protoFlags + ", " + seq + ")";
        int open = protoFlags == SYN || protoFlags == Sample.UDP ? V_NEW : V_INVALID;
        check.due(call, Sample.acceptAll().packet(addrs, ports, protoFlags, seq), open);
        check.due(call, Sample.dropAll().packet(addrs, ports, protoFlags, seq), V_DROP);
    }

    private static void addrsAreWithin255(Check check) {
        check.sentence("addrs is in 0..255");
        for (int protoFlags : new int[] {SYN, Sample.UDP}) {
            taken(check, 0, Sample.PORTS, protoFlags, 11);
            taken(check, 255, Sample.PORTS, protoFlags, 11);
            for (int wrong : Sample.outside(255)) {
                refused(check, wrong, Sample.PORTS, protoFlags, 11);
            }
        }
    }

    private static void portsAreWithin255(Check check) {
        check.sentence("ports is in 0..255");
        for (int protoFlags : new int[] {SYN, Sample.UDP}) {
            taken(check, Sample.ADDRS, 0, protoFlags, 11);
            taken(check, Sample.ADDRS, 255, protoFlags, 11);
            for (int wrong : Sample.outside(255)) {
                refused(check, Sample.ADDRS, wrong, protoFlags, 11);
            }
        }
    }

    private static void protoFlagsAreWithin31(Check check) {
        check.sentence("protoFlags is in 0..31");
        taken(check, Sample.ADDRS, Sample.PORTS, 0, 11);
        taken(check, Sample.ADDRS, Sample.PORTS, 30, 11);
        // 31 is in range, yet UDP with flags; 32 and 34 would be TCP with a flag that is none.
        refused(check, Sample.ADDRS, Sample.PORTS, 31, 11);
        for (int wrong : Sample.outside(31)) {
            refused(check, Sample.ADDRS, Sample.PORTS, wrong, 11);
        }
        refused(check, Sample.ADDRS, Sample.PORTS, 32 + ACK, 11);
        refused(check, Sample.ADDRS, Sample.PORTS, ACK - 32, 11);
    }

    private static void seqIsWithin255(Check check) {
        check.sentence("seq is in 0..255");
        for (int protoFlags : new int[] {SYN, ACK, Sample.UDP}) {
            taken(check, Sample.ADDRS, Sample.PORTS, protoFlags, 0);
            taken(check, Sample.ADDRS, Sample.PORTS, protoFlags, 255);
            for (int wrong : Sample.outside(255)) {
                refused(check, Sample.ADDRS, Sample.PORTS, protoFlags, wrong);
            }
        }
        // 256 more or less than a number in window is no such number.
        refused(check, Sample.ADDRS, Sample.PORTS, ACK, 11 + 256);
        refused(check, Sample.ADDRS, Sample.PORTS, ACK, 11 - 256);
    }

    private static void udpHasNoFlags(Check check) {
        check.sentence("flags == 0 when proto is UDP");
        taken(check, Sample.ADDRS, Sample.PORTS, Sample.UDP, 0);
        for (int flags = 1; flags < 16; flags++) {
            refused(check, Sample.ADDRS, Sample.PORTS, Sample.UDP + 2 * flags, 0);
            refused(check, Sample.UDP_ADDRS, Sample.UDP_PORTS, Sample.UDP + 2 * flags, 0);
        }
        for (int flags = 0; flags < 16; flags++) {
            taken(check, Sample.ADDRS, Sample.PORTS, Sample.tcp(flags), 0);
        }
    }

    private static void refusalComesFirst(Check check) {
        check.sentence("Step 1: refusal. The call answers BAD and changes nothing unless all of these hold");
        int[] pairs = {Sample.ADDRS, 256};
        int[] protoFlags = {ACK, 33};
        int[] seqs = {11, 256};
        for (int number = 1; number < 16; number++) {
            refused(check, pairs[number & 1], pairs[number >> 1 & 1], protoFlags[number >> 2 & 1], seqs[number >> 3]);
        }
    }

    private static void dropDecidesBeforeAllElse(Check check) {
        check.sentence("If the decision is DROP, the answer is V_DROP.");
        // The first rule of fullOfFour drops source 15; one source beside it is accepted.
        for (int flags = 0; flags < 16; flags++) {
            int protoFlags = Sample.tcp(flags);
            check.changesNothing("dropped flags " + flags, Places::fullOfFour,
                firewall -> firewall.packet(15 + 16 * 9, 5 + 16 * 7, protoFlags, 0), V_DROP);
            check.changesNothing("dropped flags " + flags, Places::newDropping,
                firewall -> firewall.packet(15 + 16 * 9, 5 + 16 * 7, protoFlags, 0), V_DROP);
        }
        check.changesNothing("dropped UDP", Places::fullOfFour,
            firewall -> firewall.packet(15 + 16 * 9, 5 + 16 * 7, Sample.UDP, 0), V_DROP);
        check.due("UDP of source 14", Places.fullOfFour().packet(14 + 16 * 9, 5 + 16 * 7, Sample.UDP, 0), V_FULL);
    }

    private static void onlySynOpens(Check check) {
        check.sentence("TCP with flags != SYN gives V_INVALID.");
        for (int flags = 0; flags < 16; flags++) {
            int protoFlags = Sample.tcp(flags);
            if (flags == StatefulFirewall.SYN) {
                check.due("SYN", Sample.acceptAll().packet(1, 2, protoFlags, 0), V_NEW);
            } else {
                check.changesNothing("flags " + flags, Places::newAccepting,
                    firewall -> firewall.packet(1, 2, protoFlags, 0), V_INVALID);
            }
        }
    }

    private static void fullTableIsAskedAfterTheFlags(Check check) {
        check.sentence("Otherwise, if the table holds connCap entries, the answer is V_FULL.");
        for (Supplier<StatefulFirewall> place : Places.FULL) {
            for (int flags = 0; flags < 16; flags++) {
                int protoFlags = Sample.tcp(flags);
                int want = flags == StatefulFirewall.SYN ? V_FULL : V_INVALID;
                check.changesNothing("flags " + flags + " on a full table", place,
                    firewall -> firewall.packet(1 + 16 * 9, 2 + 16 * 8, protoFlags, 0), want);
            }
            check.changesNothing("UDP on a full table", place,
                firewall -> firewall.packet(1 + 16 * 9, 2 + 16 * 8, Sample.UDP, 0), V_FULL);
        }
    }

    private static void tableIsFullAtTheCapacity(Check check) {
        check.sentence("if the table holds connCap entries, the answer is V_FULL");
        for (int cap = 4; cap <= 16; cap++) {
            StatefulFirewall firewall = new StatefulFirewall(4, cap, StatefulFirewall.ACCEPT);
            for (int i = 0; i < cap; i++) {
                int verdict = i % 2 == 0 ? new Flow(i).udp(firewall, 0) : new Flow(i).tcp(firewall, 0, 1, i);
                check.due("flow " + i + " of " + cap, verdict, V_NEW);
            }
            check.due("SYN beyond " + cap, firewall.packet(1, 2, SYN, 0), V_FULL);
            check.due("UDP beyond " + cap, firewall.packet(1, 2, Sample.UDP, 0), V_FULL);
            check.due("connCount()", firewall.connCount(), cap);
            check.due("a packet of the first flow", new Flow(0).udp(firewall, 1), V_PASS);
            check.due("a packet of the second flow", new Flow(1).tcp(firewall, 0, 1, 1), V_PASS);
        }
    }

    private static void roomComesBack(Check check) {
        check.sentence("Otherwise an entry is created and the answer is V_NEW.");
        StatefulFirewall byReset = Places.fullOfFour();
        check.due("RST", new Flow(3).tcp(byReset, 0, StatefulFirewall.RST, 11), V_CLOSED);
        check.due("SYN after the RST", byReset.packet(1 + 16 * 9, 2, SYN, 0), V_NEW);
        check.due("SYN on a full table again", byReset.packet(2 + 16 * 9, 2, SYN, 0), V_FULL);
        StatefulFirewall byTick = Places.fullOfFour();
        check.due("tick(5)", byTick.tick(5), 0);
        check.due("SYN before the SYN_SENT's end", byTick.packet(1 + 16 * 9, 2, SYN, 0), V_FULL);
        check.due("tick(1)", byTick.tick(1), 1);
        check.due("SYN at the SYN_SENT's end", byTick.packet(1 + 16 * 9, 2, SYN, 0), V_NEW);
        check.due("SYN on a full table again", byTick.packet(2 + 16 * 9, 2, SYN, 0), V_FULL);
    }

    private static void newEntryIsOfThePacket(Check check) {
        check.sentence("The entry has this packet's proto and its (src, sport, dst, dport) as origin.");
        int[] pairs = {0, 15, 240, 255, 18, 33};
        for (int addrs : pairs) {
            for (int ports : pairs) {
                for (int proto = 0; proto < 2; proto++) {
                    StatefulFirewall firewall = Sample.acceptAll();
                    firewall.packet(addrs, ports, proto == 0 ? SYN : Sample.UDP, 0);
                    int want = proto == 0 ? StatefulFirewall.SYN_SENT : StatefulFirewall.UDP_NEW;
                    check.due("state", firewall.connState(addrs, ports, proto), want);
                    check.due("direction", firewall.connDirection(addrs, ports, proto), 0);
                    check.due("state by the other", firewall.connState(addrs, ports, 1 - proto), StatefulFirewall.NONE);
                }
            }
        }
    }

    private static void numberAfter255IsZero(Check check) {
        check.sentence("Its state is SYN_SENT with nxt[0] = (seq + 1) & 255 for TCP, or UDP_NEW for UDP.");
        int[] sent = {0, 127, 128, 254, 255};
        int[] next = {1, 128, 129, 255, 0};
        for (int i = 0; i < sent.length; i++) {
            StatefulFirewall firewall = Sample.acceptAll();
            firewall.packet(1, 2, SYN, sent[i]);
            firewall.packet(1, 2, Sample.UDP, sent[i]);
            check.due("state", firewall.connState(1, 2, 0), StatefulFirewall.SYN_SENT);
            check.due("next after SYN " + sent[i], firewall.connNextSeq(1, 2, 0), next[i]);
            check.due("state", firewall.connState(1, 2, 1), StatefulFirewall.UDP_NEW);
            check.due("next of UDP", firewall.connNextSeq(1, 2, 1), StatefulFirewall.NO_MATCH);
        }
    }

    private static void expiryIsFromNow(Check check) {
        check.sentence("Its expiry is now + timeout(state).");
        for (int now = 0; now <= 100; now += 50) {
            StatefulFirewall firewall = Sample.acceptAll();
            if (now > 0) {
                firewall.tick(now);
            }
            firewall.packet(1, 2, SYN, 0);
            firewall.packet(1, 2, Sample.UDP, 0);
            check.due("time left of SYN_SENT", firewall.connTimeLeft(1, 2, 0), 6);
            check.due("time left of UDP_NEW", firewall.connTimeLeft(1, 2, 1), 10);
            check.due("tick(5)", firewall.tick(5), 0);
            check.due("tick(1)", firewall.tick(1), 1);
            check.due("tick(3)", firewall.tick(3), 0);
            check.due("tick(1)", firewall.tick(1), 1);
        }
    }

    private static void refusedVerdictsChangeNothing(Check check) {
        check.sentence("V_DROP, V_INVALID and V_FULL change nothing.");
        for (Supplier<StatefulFirewall> place : Places.ALL) {
            for (int number = 0; number < 2 * 17; number++) {
                // A source that some list drops and one that most accept, with all flags and over UDP.
                int addrs = (number % 2 == 0 ? 15 : 14) + 16 * 9;
                int protoFlags = number / 2 == 16 ? Sample.UDP : Sample.tcp(number / 2);
                int verdict = place.get().packet(addrs, 0, protoFlags, 0);
                if (verdict != V_NEW) {
                    check.changesNothing("packet with " + protoFlags, place,
                        firewall -> firewall.packet(addrs, 0, protoFlags, 0), verdict);
                }
                check.due("a verdict on no entry", verdict >= V_DROP && verdict <= V_FULL && verdict != V_PASS, true);
            }
        }
    }

    private static void rulesAndClockStay(Check check) {
        check.sentence("packet never changes the rule list or the clock.");
        StatefulFirewall firewall = Places.fullOfSixteen();
        View before = View.of(firewall);
        for (int header = 0; header < 65536; header += 7) {
            for (int protoFlags = -1; protoFlags <= 32; protoFlags++) {
                firewall.packet(header & 255, header >> 8, protoFlags, header * 5 & 255);
            }
        }
        check.rulesUnchanged("packets", firewall, before);
        check.due("now()", firewall.now(), 1);
    }
}
