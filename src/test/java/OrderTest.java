/** Promise 18. */
public final class OrderTest {
    public static void main(String[] args) {
        badArgBeforeNone();
        sparedIsNotLost();
        subscribeCountsTopicsNotMessages();
        Check.finish();
    }

    private static void badArgBeforeNone() {
        TopicBroker x = new TopicBroker();
        for (int c : Check.noClients()) {
            Check.due("firstTopic", x.firstTopic(c), Check.BAD_ARG);
            Check.due("firstGrade", x.firstGrade(c), Check.BAD_ARG);
        }
        Check.due("firstTopic", x.firstTopic(0), Check.NONE);
        Check.due("firstGrade", x.firstGrade(0), Check.NONE);
    }

    /** A broker whose client 0 has a full queue and one kept topic to subscribe to. */
    private static TopicBroker full() {
        TopicBroker x = new TopicBroker();
        x.subscribe(0, 1, 2);
        for (int i = 0; i < 12; i++) {
            x.publish(1, i, 2);
        }
        x.keep(2, 7);
        return x;
    }

    private static void sparedIsNotLost() {
        TopicBroker x = full();
        x.connect(0, 0);
        Check.due("publish with 0, offline and full", x.publish(1, 1, 0), 0);
        Check.due("lost", x.lost(0), 0);
        Check.due("publish with 1, offline and full", x.publish(1, 1, 1), 0);
        Check.due("lost", x.lost(0), 1);
        Check.due("subscribe with 0, offline and full", x.subscribe(0, 2, 0), 1);
        Check.due("lost", x.lost(0), 1);
        Check.due("subscribe with 1, offline and full", x.subscribe(0, 2, 1), 1);
        Check.due("lost", x.lost(0), 2);
        x.connect(0, 1);
        Check.due("publish with 0, online and full", x.publish(1, 1, 0), 0);
        Check.due("lost", x.lost(0), 3);
        Check.due("subscribe with 0, online and full", x.subscribe(0, 2, 0), 1);
        Check.due("lost", x.lost(0), 4);
        Check.due("waiting", x.waiting(0), 12);
    }

    private static void subscribeCountsTopicsNotMessages() {
        TopicBroker x = full();
        x.keep(3, 8);
        Check.due("subscribe, queue full", x.subscribe(0, Check.list(Check.ONE), 2), 2);
        Check.due("waiting", x.waiting(0), 12);
        x.connect(1, 0);
        Check.due("subscribe, offline with 0", x.subscribe(1, Check.list(Check.ONE), 0), 2);
        Check.due("waiting", x.waiting(1), 0);
    }
}
