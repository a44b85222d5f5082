/** Promises 10 to 15. */
public final class QueueTest {
    public static void main(String[] args) {
        connect();
        firstInFirstOut();
        clientsHaveTheirOwn();
        offlineTakesNothing();
        lostIsCountedForEachClient();
        roomAfterTaking();
        wrongInputs();
        Check.finish();
    }

    private static void connect() {
        TopicBroker x = new TopicBroker();
        for (int c = 0; c < 4; c++) {
            Check.due("connect, at first", x.connect(c, 0), 1);
            Check.due("connect, offline stays", x.connect(c, 0), 0);
            Check.due("connect, to online", x.connect(c, 1), 0);
            Check.due("connect, online stays", x.connect(c, 1), 1);
            for (int on : new int[] {-1, 2, 256, Integer.MIN_VALUE, Integer.MAX_VALUE}) {
                Check.due("connect, to offline", x.connect(c, 0), 1);
                Check.due("connect with " + on, x.connect(c, on), 0);
                Check.due("connect with " + on + " again", x.connect(c, on), 1);
            }
        }
        x.connect(2, 0);
        Check.due("connect, another", x.connect(1, 1), 1);
        Check.due("connect, another", x.connect(3, 1), 1);
        Check.due("connect, itself", x.connect(2, 1), 0);
    }

    private static void firstInFirstOut() {
        TopicBroker x = new TopicBroker();
        x.subscribe(3, Check.list(Check.REST), 2);
        for (int i = 0; i < 12; i++) {
            x.publish(Check.list(i / 5, i % 5), 50 + i, i % 3);
            Check.due("waiting", x.waiting(3), i + 1);
        }
        for (int i = 0; i < 12; i++) {
            Check.due("firstTopic", x.firstTopic(3), Check.list(i / 5, i % 5));
            Check.due("firstGrade", x.firstGrade(3), i % 3);
            Check.due("asking takes nothing off", x.waiting(3), 12 - i);
            Check.due("take", x.take(3), 50 + i);
            Check.due("waiting", x.waiting(3), 11 - i);
        }
        Check.due("firstTopic", x.firstTopic(3), Check.NONE);
        Check.due("firstGrade", x.firstGrade(3), Check.NONE);
        Check.due("take", x.take(3), 0);
        Check.due("waiting", x.waiting(3), 0);
    }

    private static void clientsHaveTheirOwn() {
        TopicBroker x = new TopicBroker();
        for (int c = 0; c < 4; c++) {
            x.subscribe(c, 1 + c, 2);
        }
        for (int i = 0; i < 12; i++) {
            for (int c = 0; c < 4; c++) {
                x.publish(1 + c, 100 * c + i, 2);
            }
        }
        for (int i = 0; i < 12; i++) {
            for (int c = 3; c >= 0; c--) {
                Check.due("firstTopic", x.firstTopic(c), 1 + c);
                Check.due("take", x.take(c), 100 * c + i);
            }
        }
    }

    private static void offlineTakesNothing() {
        TopicBroker x = new TopicBroker();
        x.subscribe(0, 1, 2);
        x.publish(1, 9, 2);
        x.connect(0, 0);
        Check.due("take", x.take(0), 0);
        Check.due("waiting", x.waiting(0), 1);
        Check.due("firstTopic", x.firstTopic(0), 1);
        Check.due("firstGrade", x.firstGrade(0), 2);
        x.connect(0, 1);
        Check.due("take", x.take(0), 9);
    }

    private static void lostIsCountedForEachClient() {
        TopicBroker x = new TopicBroker();
        for (int c = 0; c < 4; c++) {
            x.subscribe(c, 1 + c, 2);
            for (int i = 0; i < 12 + c; i++) {
                x.publish(1 + c, i, 2);
            }
        }
        for (int c = 0; c < 4; c++) {
            Check.due("lost", x.lost(c), c);
            Check.due("waiting", x.waiting(c), 12);
            Check.due("the first is still there", x.take(c), 0);
            Check.due("lost after take", x.lost(c), c);
        }
        x.unsubscribe(3, 4);
        Check.due("lost after unsubscribe", x.lost(3), 3);
    }

    private static void roomAfterTaking() {
        TopicBroker x = new TopicBroker();
        x.subscribe(0, 1, 2);
        for (int i = 0; i < 60; i++) {
            Check.due("publish", x.publish(1, i, 2), 1);
            if (i >= 11) {
                Check.due("take", x.take(0), i - 11);
            }
        }
        Check.due("waiting", x.waiting(0), 11);
        Check.due("lost", x.lost(0), 0);
        x.unsubscribe(0, 1);
        Check.due("unsubscribe leaves the queue", x.waiting(0), 11);
    }

    private static void wrongInputs() {
        TopicBroker x = new TopicBroker();
        for (int c = 0; c < 4; c++) {
            x.subscribe(c, 1, 2);
        }
        x.publish(1, 5, 2);
        for (int c : Check.noClients()) {
            Check.due("connect c " + c, x.connect(c, 0), Check.BAD_ARG);
            Check.due("waiting c " + c, x.waiting(c), Check.BAD_ARG);
            Check.due("firstTopic c " + c, x.firstTopic(c), Check.BAD_ARG);
            Check.due("firstGrade c " + c, x.firstGrade(c), Check.BAD_ARG);
            Check.due("take c " + c, x.take(c), 0);
            Check.due("lost c " + c, x.lost(c), Check.BAD_ARG);
        }
        for (int c = 0; c < 4; c++) {
            Check.due("waiting", x.waiting(c), 1);
            Check.due("connect", x.connect(c, 1), 1);
        }
    }
}
