/** Promise 1, and the constants. */
public final class NewObjectTest {
    public static void main(String[] args) {
        constants();
        emptyAndOnline();
        objectsAreApart();
        Check.finish();
    }

    private static void constants() {
        Check.due("BAD_ARG", TopicBroker.BAD_ARG, -1);
        Check.due("FULL", TopicBroker.FULL, -2);
        Check.due("NONE", TopicBroker.NONE, -4);
    }

    private static void emptyAndOnline() {
        TopicBroker x = new TopicBroker();
        Check.due("kept(REST)", x.kept(Check.list(Check.REST)), 0);
        Check.due("publish", x.publish(1, 1, 2), 0);
        Check.due("reached", x.reached(1), 0);
        for (int c = 0; c < 4; c++) {
            Check.due("subscriptions", x.subscriptions(c), 0);
            Check.due("breadth", x.breadth(c), 0);
            Check.due("waiting", x.waiting(c), 0);
            Check.due("firstTopic", x.firstTopic(c), Check.NONE);
            Check.due("firstGrade", x.firstGrade(c), Check.NONE);
            Check.due("take", x.take(c), 0);
            Check.due("lost", x.lost(c), 0);
            Check.due("connect", x.connect(c, 1), 1);
        }
    }

    private static void objectsAreApart() {
        TopicBroker used = new TopicBroker();
        used.subscribe(0, 7, 2);
        used.publish(1, 5, 2);
        used.keep(1, 5);
        used.connect(0, 0);
        TopicBroker x = new TopicBroker();
        Check.due("subscriptions on the other", x.subscriptions(0), 0);
        Check.due("waiting on the other", x.waiting(0), 0);
        Check.due("kept on the other", x.kept(7), 0);
        Check.due("connect on the other", x.connect(0, 1), 1);
    }
}
