/** The calls that take a header and change nothing. */
enum HeaderCall {
    CLASSIFY(StatefulFirewall.DROP, StatefulFirewall::classify),
    MATCHING_RULE(StatefulFirewall.NO_MATCH, StatefulFirewall::matchingRule),
    CONN_STATE(StatefulFirewall.NONE, StatefulFirewall::connState),
    CONN_DIRECTION(StatefulFirewall.NO_MATCH, StatefulFirewall::connDirection),
    CONN_TIME_LEFT(StatefulFirewall.NO_MATCH, StatefulFirewall::connTimeLeft),
    CONN_NEXT_SEQ(StatefulFirewall.NO_MATCH, StatefulFirewall::connNextSeq);

    /** How the firewall is asked. */
    interface Question {
        int ask(StatefulFirewall firewall, int addrs, int ports, int proto);
    }

    /** The answer of a new firewall that drops by default to every valid header. */
    final int answerOfNew;
    private final Question question;

    HeaderCall(int answerOfNew, Question question) {
        this.answerOfNew = answerOfNew;
        this.question = question;
    }

    int ask(StatefulFirewall firewall, int addrs, int ports, int proto) {
        return question.ask(firewall, addrs, ports, proto);
    }

    String told(int addrs, int ports, int proto) {
        return name() + "(" + addrs + ", " + ports + ", " + proto + ")";
    }
}
