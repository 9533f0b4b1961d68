import java.util.function.Supplier;

/** Every sentence of promise 10 on its step 2, where an entry is found. */
public final class Sentences10TrackedTest {
    private static final int V_DROP = StatefulFirewall.V_DROP;
    private static final int V_PASS = StatefulFirewall.V_PASS;
    private static final int V_INVALID = StatefulFirewall.V_INVALID;
    private static final int V_CLOSED = StatefulFirewall.V_CLOSED;
    private static final int SYN = StatefulFirewall.SYN;
    private static final int ACK = StatefulFirewall.ACK;
    private static final int SYN_ACK = StatefulFirewall.SYN + StatefulFirewall.ACK;
    private static final int ACK_FIN = StatefulFirewall.ACK + StatefulFirewall.FIN;
    private static final int RST = StatefulFirewall.RST;
    private static final Flow FLOW = new Flow(3);
    private static final Flow OTHER = new Flow(4);

    public static void main(String[] args) {
        Check check = new Check();
        rulesAreNotConsulted(check);
        udpIsRepliedFromTheOtherSide(check);
        udpSeqPlaysNoPart(check);
        resetMayCarryOtherFlags(check);
        resetIsInWindow(check);
        resetOfSynSent(check);
        refusedResetChangesNothing(check);
        unlistedCasesChangeNothing(check);
        synSentTakesRetransmits(check);
        synSentTakesAnyReply(check);
        synRecvTakesRetransmits(check);
        windowsOfEveryState(check);
        nextNumberWraps(check);
        expiryIsSetAnew(check);
        noOtherEntryChanges(check);
        check.end();
    }

    private static Supplier<StatefulFirewall> inState(int state) {
        return () -> {
            StatefulFirewall firewall = Sample.acceptAll();
            OTHER.lead(firewall, StatefulFirewall.UDP_REPLIED);
            FLOW.lead(firewall, state);
            OTHER.lead(firewall, StatefulFirewall.ESTABLISHED);
            firewall.tick(1);
            return firewall;
        };
    }

    private static void rulesAreNotConsulted(Check check) {
        check.sentence("Rules are not consulted.");
        for (int state = 1; state <= 9; state++) {
            StatefulFirewall firewall = Sample.acceptAll();
            FLOW.lead(firewall, state);
            firewall.addRule(0, 0, 240, Sample.DROP_ANY);
            if (Sample.protoOfState(state) == Sample.UDP) {
                check.due("UDP in state " + state, FLOW.udp(firewall, 0), V_PASS);
                check.due("UDP back in state " + state, FLOW.udp(firewall, 1), V_PASS);
                check.due("TCP, which has no entry", FLOW.tcp(firewall, 0, SYN, 0), V_DROP);
            } else {
                check.due("a wrong packet in state " + state, FLOW.tcp(firewall, 0, 0, 0), V_INVALID);
                check.due("RST in state " + state, FLOW.tcp(firewall, 0, RST, Sample.nextOrigin(state, 9)), V_CLOSED);
                check.due("RST without an entry", FLOW.tcp(firewall, 0, RST, Sample.nextOrigin(state, 9)), V_DROP);
            }
        }
    }

    private static void udpIsRepliedFromTheOtherSide(Check check) {
        check.sentence("If d == 1 the state becomes UDP_REPLIED; otherwise the state stays as it is.");
        StatefulFirewall firewall = Sample.acceptAll();
        FLOW.udp(firewall, 0);
        for (int i = 0; i < 3; i++) {
            check.due("UDP of the origin", FLOW.udp(firewall, 0), V_PASS);
            check.due("state", FLOW.state(firewall, Sample.UDP), StatefulFirewall.UDP_NEW);
        }
        check.due("UDP of the reply", FLOW.udp(firewall, 1), V_PASS);
        check.due("state", FLOW.state(firewall, Sample.UDP), StatefulFirewall.UDP_REPLIED);
        check.due("UDP of the origin", FLOW.udp(firewall, 0), V_PASS);
        check.due("state", FLOW.state(firewall, Sample.UDP), StatefulFirewall.UDP_REPLIED);
        check.due("UDP of the reply", FLOW.udp(firewall, 1), V_PASS);
        check.due("state", FLOW.state(firewall, Sample.UDP), StatefulFirewall.UDP_REPLIED);
        // An end that talks to itself is always the origin.
        for (int i = 0; i < 3; i++) {
            firewall.packet(17, 34, Sample.UDP, 0);
            check.due("state of an end to itself", firewall.connState(17, 34, 1), StatefulFirewall.UDP_NEW);
        }
    }

    private static void udpSeqPlaysNoPart(Check check) {
        check.sentence("UDP: the packet is accepted.");
        for (int seq = 0; seq < 256; seq++) {
            StatefulFirewall firewall = Sample.acceptAll();
            FLOW.udp(firewall, 0);
            check.due("UDP " + seq, firewall.packet(FLOW.addrs(0), FLOW.ports(0), Sample.UDP, seq), V_PASS);
            check.due("UDP back " + seq, firewall.packet(FLOW.addrs(1), FLOW.ports(1), Sample.UDP, 255 - seq), V_PASS);
        }
    }

    private static void resetMayCarryOtherFlags(Check check) {
        check.sentence("TCP with RST in flags (other flags may also be present)");
        for (int state = 1; state <= 7; state++) {
            for (int flags = 0; flags < 16; flags++) {
                StatefulFirewall firewall = inState(state).get();
                int verdict = FLOW.tcp(firewall, 0, flags, Sample.nextOrigin(state, 9));
                check.due("flags " + flags + " close in state " + state, verdict == V_CLOSED, flags >= RST);
                check.due("connCount()", firewall.connCount(), flags >= RST ? 2 : 3);
            }
        }
    }

    private static void resets(Check check, int state, int direction, int next, int ahead, boolean closes) {
        StatefulFirewall firewall = Sample.acceptAll();
        OTHER.lead(firewall, StatefulFirewall.ESTABLISHED);
        int steps = (Sample.nextOrigin(state, 0) + 256) % 256;
        int back = state == StatefulFirewall.SYN_SENT ? 1 : Sample.nextReply(state, 0);
        FLOW.lead(firewall, state, direction == 0 ? next - steps : 77, direction == 1 ? next - back : 77);
        String call = "RST " + ahead + " ahead of " + next + " in state " + state + ", direction " + direction;
        check.due(call, FLOW.tcp(firewall, direction, RST, next + ahead), closes ? V_CLOSED : V_INVALID);
        check.due("state after " + call, FLOW.state(firewall, Sample.TCP), closes ? StatefulFirewall.NONE : state);
        check.due("connCount() after " + call, firewall.connCount(), closes ? 1 : 2);
    }

    private static void resetIsInWindow(Check check) {
        check.sentence("or seq is in window for d, then E is removed and the answer is V_CLOSED");
        for (int state = 1; state <= 7; state++) {
            for (int next = 0; next < 256; next++) {
                for (int direction = 0; direction < 2; direction++) {
                    if (state == StatefulFirewall.SYN_SENT && direction == 1) {
                        continue;
                    }
                    resets(check, state, direction, next, 0, true);
                    resets(check, state, direction, next, 31, true);
                    resets(check, state, direction, next, 32, false);
                    resets(check, state, direction, next, 255, false);
                }
            }
        }
    }

    private static void resetOfSynSent(Check check) {
        check.sentence("if (state is SYN_SENT and d == 1)");
        for (int seq = 0; seq < 256; seq++) {
            resets(check, StatefulFirewall.SYN_SENT, 1, seq, 0, true);
            resets(check, StatefulFirewall.SYN_SENT, 0, 100, seq, seq < 32);
            // One state on, the reply has a window too.
            resets(check, StatefulFirewall.SYN_RECV, 1, 100, seq, seq < 32);
        }
    }

    private static void refusedResetChangesNothing(Check check) {
        check.sentence("otherwise the answer is V_INVALID and nothing changes");
        for (int state = 1; state <= 7; state++) {
            int origin = Sample.nextOrigin(state, 9);
            int reply = Sample.nextReply(state, 249);
            for (int flags = RST; flags < 16; flags++) {
                int sent = flags;
                check.changesNothing("RST behind the window", inState(state),
                    firewall -> FLOW.tcp(firewall, 0, sent, origin + 32), V_INVALID);
                check.changesNothing("RST before the window", inState(state),
                    firewall -> FLOW.tcp(firewall, 0, sent, origin + 255), V_INVALID);
                if (state != StatefulFirewall.SYN_SENT) {
                    check.changesNothing("RST back behind the window", inState(state),
                        firewall -> FLOW.tcp(firewall, 1, sent, reply + 32), V_INVALID);
                }
            }
        }
    }

    private static void unlistedCasesChangeNothing(Check check) {
        check.sentence("Any case not listed answers V_INVALID and changes nothing.");
        for (int state = 1; state <= 7; state++) {
            for (int direction = 0; direction < 2; direction++) {
                int next = direction == 0 ? Sample.nextOrigin(state, 9) : Sample.nextReply(state, 249) & 255;
                for (int flags = 0; flags < RST; flags++) {
                    for (int ahead : new int[] {-1, 0, 31, 32}) {
                        unlisted(check, state, direction, flags, next + ahead);
                    }
                }
            }
        }
    }

    private static void unlisted(Check check, int state, int direction, int flags, int seq) {
        String call = "flags " + flags + " and seq " + (seq & 255) + " in state " + state + ", direction " + direction;
        int verdict = FLOW.tcp(inState(state).get(), direction, flags, seq);
        check.due(call + " passes or is invalid", verdict == V_PASS || verdict == V_INVALID, true);
        boolean mayPass = flags == SYN && state == 1 || flags == SYN_ACK && state < 3 || flags == ACK && state > 1
            || flags == ACK_FIN && state > 2;
        if (!mayPass) {
            check.due(call, verdict, V_INVALID);
        }
        if (verdict == V_INVALID) {
            check.changesNothing(call, inState(state),
                firewall -> FLOW.tcp(firewall, direction, flags, seq), V_INVALID);
        }
    }

    /** The flow, in the state, awaits 100 from its origin and 200 from the reply. */
    private static StatefulFirewall awaiting(int state) {
        StatefulFirewall firewall = Sample.acceptAll();
        FLOW.lead(firewall, state, 100 - Sample.nextOrigin(state, 0), 200 - Sample.nextReply(state, 0));
        firewall.tick(1);
        return firewall;
    }

    private static void passes(Check check, int state, int direction, int flags, int ahead, int want) {
        StatefulFirewall firewall = awaiting(state);
        int next = direction == 0 ? 100 : 200;
        String call = "flags " + flags + " and " + ahead + " ahead in state " + state + ", direction " + direction;
        int verdict = FLOW.tcp(firewall, direction, flags, next + ahead);
        boolean passed = want != StatefulFirewall.NONE;
        check.due(call, verdict, passed ? V_PASS : V_INVALID);
        check.due("state after " + call, FLOW.state(firewall, Sample.TCP), passed ? want : state);
        int left = passed ? Sample.timeout(want) : Sample.timeout(state) - 1;
        check.due("time left after " + call, FLOW.timeLeft(firewall, Sample.TCP), left);
        int after = passed ? next + ahead + 1 & 255 : FLOW.nextSeq(awaiting(state), direction);
        check.due("next after " + call, FLOW.nextSeq(firewall, direction), after);
        int other = FLOW.nextSeq(awaiting(state), 1 - direction);
        check.due("next of the other after " + call, FLOW.nextSeq(firewall, 1 - direction), other);
    }

    private static void synSentTakesRetransmits(Check check) {
        check.sentence("SYN_SENT: d = 0, flags == SYN, seq a retransmit for 0: the state stays.");
        passes(check, StatefulFirewall.SYN_SENT, 0, SYN, -2, StatefulFirewall.NONE);
        passes(check, StatefulFirewall.SYN_SENT, 0, SYN, -1, StatefulFirewall.SYN_SENT);
        passes(check, StatefulFirewall.SYN_SENT, 0, SYN, 0, StatefulFirewall.NONE);
        passes(check, StatefulFirewall.SYN_SENT, 1, SYN, -1, StatefulFirewall.NONE);
        passes(check, StatefulFirewall.SYN_RECV, 0, SYN, -1, StatefulFirewall.NONE);
    }

    private static void synSentTakesAnyReply(Check check) {
        check.sentence("d = 1, flags == SYN+ACK, any seq: the state becomes SYN_RECV.");
        for (int seq = 0; seq < 256; seq++) {
            passes(check, StatefulFirewall.SYN_SENT, 1, SYN_ACK, seq, StatefulFirewall.SYN_RECV);
            passes(check, StatefulFirewall.SYN_SENT, 0, SYN_ACK, seq, StatefulFirewall.NONE);
        }
    }

    private static void synRecvTakesRetransmits(Check check) {
        check.sentence("SYN_RECV: d = 1, flags == SYN+ACK, seq a retransmit for 1: the state stays.");
        passes(check, StatefulFirewall.SYN_RECV, 1, SYN_ACK, -2, StatefulFirewall.NONE);
        passes(check, StatefulFirewall.SYN_RECV, 1, SYN_ACK, -1, StatefulFirewall.SYN_RECV);
        passes(check, StatefulFirewall.SYN_RECV, 1, SYN_ACK, 0, StatefulFirewall.NONE);
        passes(check, StatefulFirewall.SYN_RECV, 0, SYN_ACK, -1, StatefulFirewall.NONE);
        passes(check, StatefulFirewall.ESTABLISHED, 1, SYN_ACK, -1, StatefulFirewall.NONE);
    }

    private static void windowsOfEveryState(Check check) {
        // The sentence, the state and the flags, and the new state by direction, 0 where the packet is invalid.
        window(check, "d = 0, flags == ACK, in window: the state becomes ESTABLISHED.", 2, ACK, 3, 0);
        window(check, "ESTABLISHED: flags == ACK, in window: the state stays.", 3, ACK, 3, 3);
        window(check, "flags == ACK+FIN, in window: the state becomes FIN_ORIG if d = 0, or FIN_REPLY if d = 1.",
            3, ACK_FIN, 4, 5);
        window(check, "FIN_ORIG: flags == ACK, in window: the state stays.", 4, ACK, 4, 4);
        window(check, "flags == ACK+FIN, in window: the state stays if d = 0, or becomes CLOSING if d = 1.",
            4, ACK_FIN, 4, 6);
        window(check, "FIN_REPLY: flags == ACK, in window: the state stays.", 5, ACK, 5, 5);
        window(check, "flags == ACK+FIN, in window: the state stays if d = 1, or becomes CLOSING if d = 0.",
            5, ACK_FIN, 6, 5);
        window(check, "CLOSING: flags == ACK, in window: the state becomes TIME_WAIT.", 6, ACK, 7, 7);
        window(check, "flags == ACK+FIN, in window: the state stays.", 6, ACK_FIN, 6, 6);
        window(check, "TIME_WAIT: flags == ACK or ACK+FIN, in window: the state stays.", 7, ACK, 7, 7);
        window(check, "TIME_WAIT: flags == ACK or ACK+FIN, in window: the state stays.", 7, ACK_FIN, 7, 7);
    }

    private static void window(Check check, String sentence, int state, int flags, int byOrigin, int byReply) {
        check.sentence(sentence);
        for (int direction = 0; direction < 2; direction++) {
            int want = direction == 0 ? byOrigin : byReply;
            passes(check, state, direction, flags, -1, StatefulFirewall.NONE);
            passes(check, state, direction, flags, 0, want);
            passes(check, state, direction, flags, 1, want);
            passes(check, state, direction, flags, 31, want);
            passes(check, state, direction, flags, 32, StatefulFirewall.NONE);
            passes(check, state, direction, flags, 128, StatefulFirewall.NONE);
        }
    }

    private static void nextNumberWraps(Check check) {
        check.sentence("When a TCP packet is accepted, nxt[d] is set to (seq + 1) & 255, "
            + "and the other direction's value is not touched.");
        for (int direction = 0; direction < 2; direction++) {
            for (int seq = 250; seq <= 260; seq++) {
                StatefulFirewall firewall = Sample.acceptAll();
                FLOW.lead(firewall, StatefulFirewall.ESTABLISHED, 248, 249);
                check.due("ACK " + (seq & 255), FLOW.tcp(firewall, direction, ACK, seq), V_PASS);
                check.due("next after " + (seq & 255), FLOW.nextSeq(firewall, direction), seq + 1 & 255);
                check.due("next of the other", FLOW.nextSeq(firewall, 1 - direction), 250);
            }
        }
    }

    private static void expiryIsSetAnew(Check check) {
        check.sentence("It sets expiry = now + timeout(new state).");
        for (int state = 1; state <= 9; state++) {
            StatefulFirewall firewall = Sample.acceptAll();
            FLOW.lead(firewall, state);
            int proto = Sample.protoOfState(state);
            // To the last moment of the entry, where a packet that keeps the state gives it all its time again.
            firewall.tick(Sample.timeout(state) - 1);
            check.due("time left in state " + state, FLOW.timeLeft(firewall, proto), 1);
            check.due("a packet in state " + state, keep(firewall, state), V_PASS);
            check.due("state", FLOW.state(firewall, proto), state);
            check.due("time left anew in state " + state, FLOW.timeLeft(firewall, proto), Sample.timeout(state));
            check.due("tick to one before the new end", firewall.tick(Sample.timeout(state) - 1), 0);
            check.due("tick to the new end", firewall.tick(1), 1);
        }
    }

    /** A packet that leaves the state as it is. */
    private static int keep(StatefulFirewall firewall, int state) {
        switch (state) {
            case StatefulFirewall.SYN_SENT: return FLOW.tcp(firewall, 0, SYN, 9);
            case StatefulFirewall.SYN_RECV: return FLOW.tcp(firewall, 1, SYN_ACK, 249);
            case StatefulFirewall.CLOSING: return FLOW.tcp(firewall, 0, ACK_FIN, Sample.nextOrigin(state, 9));
            case StatefulFirewall.UDP_NEW: return FLOW.udp(firewall, 0);
            case StatefulFirewall.UDP_REPLIED: return FLOW.udp(firewall, 0);
            default: return FLOW.tcp(firewall, 0, ACK, Sample.nextOrigin(state, 9));
        }
    }

    private static void noOtherEntryChanges(Check check) {
        check.sentence("No other entry changes.");
        for (int sender = 0; sender < 16; sender++) {
            StatefulFirewall firewall = Places.fullOfSixteen();
            StatefulFirewall untouched = Places.fullOfSixteen();
            int sent = keepOf(firewall, sender);
            check.due("a packet of flow " + sender, sent, V_PASS);
            for (int source = 0; source < 16; source++) {
                if (source != sender) {
                    same(check, new Flow(source), Sample.protoOfState(1 + source % 9), firewall, untouched);
                }
            }
        }
    }

    private static int keepOf(StatefulFirewall firewall, int source) {
        Flow flow = new Flow(source);
        int state = 1 + source % 9;
        if (state >= StatefulFirewall.UDP_NEW) {
            return flow.udp(firewall, 1);
        }
        if (state == StatefulFirewall.SYN_SENT) {
            return flow.tcp(firewall, 1, SYN_ACK, 0);
        }
        return flow.tcp(firewall, 0, ACK, Sample.nextOrigin(state, 9));
    }

    private static void same(Check check, Flow flow, int proto, StatefulFirewall firewall, StatefulFirewall untouched) {
        check.due("state of another", flow.state(firewall, proto), flow.state(untouched, proto));
        check.due("time left of another", flow.timeLeft(firewall, proto), flow.timeLeft(untouched, proto));
        check.due("next of another", flow.nextSeq(firewall, 0), flow.nextSeq(untouched, 0));
        check.due("next back of another", flow.nextSeq(firewall, 1), flow.nextSeq(untouched, 1));
    }
}
