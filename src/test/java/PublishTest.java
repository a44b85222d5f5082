/** Promise 6. */
public final class PublishTest {
    public static void main(String[] args) {
        goesToEveryMatchingClientOnce();
        gradeIsTheLesser();
        greatestMatchingGradeCounts();
        offlineClients();
        fullQueue();
        doesNotKeep();
        anyIntIsAValue();
        wrongInputs();
        Check.finish();
    }

    private static void goesToEveryMatchingClientOnce() {
        TopicBroker x = new TopicBroker();
        int t = Check.list(1, 2);
        x.subscribe(0, t, 1);
        x.subscribe(0, Check.list(1, Check.ONE), 1);
        x.subscribe(0, Check.list(Check.REST), 1);
        x.subscribe(1, Check.list(1), 1);
        x.subscribe(3, Check.list(1, Check.REST), 1);
        Check.due("publish", x.publish(t, 42, 1), 2);
        Check.due("waiting(0)", x.waiting(0), 1);
        Check.due("waiting(1)", x.waiting(1), 0);
        Check.due("waiting(2)", x.waiting(2), 0);
        Check.due("waiting(3)", x.waiting(3), 1);
        Check.due("firstTopic(0)", x.firstTopic(0), t);
        Check.due("take(0)", x.take(0), 42);
        Check.due("take(3)", x.take(3), 42);
        x.subscribe(1, Check.list(Check.ONE, 2), 0);
        x.subscribe(2, Check.list(1, 2, Check.REST), 0);
        Check.due("publish to all", x.publish(t, 43, 1), 4);
        x.unsubscribe(3, Check.list(1, Check.REST));
        Check.due("publish after unsubscribe", x.publish(t, 44, 1), 3);
    }

    private static void gradeIsTheLesser() {
        for (int subscribed = 0; subscribed <= 2; subscribed++) {
            for (int published = 0; published <= 2; published++) {
                TopicBroker x = new TopicBroker();
                x.subscribe(0, 1, subscribed);
                x.publish(1, 1, published);
                Check.due("firstGrade", x.firstGrade(0), subscribed < published ? subscribed : published);
            }
        }
    }

    private static void greatestMatchingGradeCounts() {
        for (int place = 0; place < 3; place++) {
            TopicBroker x = new TopicBroker();
            int[] filters = {1, Check.list(Check.ONE), Check.list(Check.REST)};
            for (int i = 0; i < 3; i++) {
                x.subscribe(0, filters[i], i == place ? 1 : 0);
            }
            x.subscribe(0, 2, 2);
            x.publish(1, 1, 2);
            Check.due("firstGrade", x.firstGrade(0), 1);
        }
    }

    private static void offlineClients() {
        TopicBroker x = new TopicBroker();
        x.subscribe(0, 1, 0);
        x.subscribe(1, 1, 1);
        x.subscribe(2, 1, 2);
        for (int c = 0; c < 3; c++) {
            x.connect(c, 0);
        }
        Check.due("publish with 0", x.publish(1, 1, 0), 0);
        Check.due("publish with 1", x.publish(1, 2, 1), 2);
        Check.due("publish with 2", x.publish(1, 3, 2), 2);
        Check.due("waiting(0)", x.waiting(0), 0);
        Check.due("waiting(1)", x.waiting(1), 2);
        Check.due("waiting(2)", x.waiting(2), 2);
        x.connect(0, 1);
        Check.due("publish with 0 to one online", x.publish(1, 4, 0), 1);
    }

    private static void fullQueue() {
        TopicBroker x = new TopicBroker();
        x.subscribe(0, 1, 2);
        x.subscribe(1, 2, 2);
        x.subscribe(1, 1, 2);
        for (int i = 0; i < 12; i++) {
            Check.due("publish", x.publish(1, i, 2), 2);
        }
        x.take(1);
        Check.due("publish, one queue full", x.publish(1, 12, 2), 1);
        Check.due("publish, both full", x.publish(1, 13, 2), 0);
        Check.due("lost(0)", x.lost(0), 2);
        Check.due("lost(1)", x.lost(1), 1);
    }

    private static void doesNotKeep() {
        TopicBroker x = new TopicBroker();
        x.publish(1, 5, 2);
        Check.due("kept", x.kept(7), 0);
        Check.due("subscribe", x.subscribe(0, 7, 2), 0);
        Check.due("waiting", x.waiting(0), 0);
        x.keep(1, 8);
        x.publish(1, 9, 2);
        Check.due("the kept value stays", x.subscribe(1, 1, 2), 1);
        Check.due("take", x.take(1), 8);
    }

    private static void anyIntIsAValue() {
        TopicBroker x = new TopicBroker();
        int[] values = {0, -1, -4, Integer.MIN_VALUE, Integer.MAX_VALUE};
        x.subscribe(0, 1, 2);
        for (int value : values) {
            Check.due("publish", x.publish(1, value, 2), 1);
        }
        for (int value : values) {
            Check.due("take", x.take(0), value);
        }
        Check.due("waiting", x.waiting(0), 0);
    }

    private static void wrongInputs() {
        TopicBroker x = new TopicBroker();
        x.subscribe(0, 7, 2);
        for (int t : Check.noTopics()) {
            Check.due("publish t " + t, x.publish(t, 1, 1), Check.BAD_ARG);
        }
        for (int grade : Check.noGrades()) {
            Check.due("publish grade " + grade, x.publish(1, 1, grade), Check.BAD_ARG);
        }
        Check.due("waiting", x.waiting(0), 0);
        Check.due("lost", x.lost(0), 0);
    }
}
