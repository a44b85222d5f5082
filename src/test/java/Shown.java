/**
 * All that a broker's methods show of its state, as a text to be compared with another's.
 * Asking takes the broker's queues and subscriptions apart: it is of no use afterwards.
 */
final class Shown {
    private final TopicBroker x;
    private final StringBuilder rows = new StringBuilder();

    private Shown(TopicBroker x) {
        this.x = x;
    }

    /** Stays below 300 calls, so that the broker may have been used for 200 before. */
    static String of(TopicBroker x) {
        Shown shown = new Shown(x);
        shown.counts();
        shown.reach();
        for (int c = 0; c < 4; c++) {
            shown.row("online", x.connect(c, 1));
        }
        for (int c = 0; c < 4; c++) {
            shown.queue(c);
        }
        for (int c = 0; c < 4; c++) {
            shown.subscriptions(c);
        }
        shown.kept();
        return shown.rows.toString();
    }

    private void row(String name, int answer) {
        rows.append(name).append(' ').append(answer).append(' ');
    }

    private void counts() {
        for (int c = 0; c < 4; c++) {
            rows.append("| client ").append(c).append(": ");
            row("subscriptions", x.subscriptions(c));
            row("waiting", x.waiting(c));
            row("lost", x.lost(c));
            row("breadth", x.breadth(c));
        }
        row("| kept", x.kept(Check.list(Check.REST)));
    }

    private void reach() {
        for (int t = Check.list(0); t <= Check.list(4); t++) {
            row("reached", x.reached(t));
        }
    }

    private void queue(int c) {
        rows.append("| queue ").append(c).append(": ");
        int count = x.waiting(c);
        for (int i = 0; i < count; i++) {
            row("topic", x.firstTopic(c));
            row("grade", x.firstGrade(c));
            row("value", x.take(c));
        }
    }

    private void subscriptions(int c) {
        rows.append("| grades ").append(c).append(": ");
        for (int f : Standing.FILTERS) {
            row("", x.unsubscribe(c, f));
        }
        row("left over", x.subscriptions(c));
    }

    /** The queues are empty and client 0 has room for a subscription by now. */
    private void kept() {
        rows.append("| kept ");
        int count = x.subscribe(0, Check.list(Check.REST), 1);
        for (int i = 0; i < count; i++) {
            row("topic", x.firstTopic(0));
            row("value", x.take(0));
        }
    }
}
