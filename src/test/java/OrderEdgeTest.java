/** The edges that promise 18 names, and the constants. */
public final class OrderEdgeTest {
    private static final int ONE = Check.ONE;

    public static void main(String[] args) {
        constants();
        badArgBeforeNone();
        sparedIsNotLostWhenPublished();
        sparedIsNotLostWhenKept();
        noRoomIsLost();
        onlyNoRoomIsLost();
        subscribeCountsTopics();
        Check.finish();
    }

    private static void constants() {
        Check.sentence("The constants: `BAD_ARG = -1`");
        Check.due("BAD_ARG", TopicBroker.BAD_ARG, -1);
        Check.sentence("`FULL = -2`");
        Check.due("FULL", TopicBroker.FULL, -2);
        Check.sentence("`NONE = -4`");
        Check.due("NONE", TopicBroker.NONE, -4);
    }

    private static void badArgBeforeNone() {
        Check.sentence("firstTopic, firstGrade: BAD_ARG is tested before NONE.");
        for (int c : Check.noClients()) {
            Refused.call("firstTopic(" + c + ")", Standing.NEW, x -> x.firstTopic(c), Check.BAD_ARG);
            Refused.call("firstGrade(" + c + ")", Standing.NEW, x -> x.firstGrade(c), Check.BAD_ARG);
        }
    }

    /** A broker whose client c, subscribed to topic 1 with this grade, has so many messages and is offline. */
    private static TopicBroker offline(int c, int grade, int messages) {
        TopicBroker x = new TopicBroker();
        x.subscribe(c, 1, grade);
        for (int i = 0; i < messages; i++) {
            x.publish(1, i, 2);
        }
        x.connect(c, 0);
        return x;
    }

    private static void sparedIsNotLostWhenPublished() {
        Check.sentence("because that is not online and the grade would be 0 is not LOST, also if the queue has 12 messages", "publish");
        for (int c = 0; c < 4; c++) {
            for (int messages = 11; messages <= 12; messages++) {
                for (int s = 0; s <= 2; s++) {
                    TopicBroker x = offline(c, s, messages);
                    Check.due("publish with 0", x.publish(1, 9, 0), 0);
                    Check.due("lost", x.lost(c), 0);
                    Check.due("waiting", x.waiting(c), messages);
                }
                TopicBroker x = offline(c, 0, messages);
                Check.due("publish with 2 to a 0", x.publish(1, 9, 2), 0);
                Check.due("lost", x.lost(c), 0);
                Check.due("waiting", x.waiting(c), messages);
            }
        }
    }

    private static void sparedIsNotLostWhenKept() {
        Check.sentence("because that is not online and the grade would be 0 is not LOST, also if the queue has 12 messages", "subscribe");
        for (int messages = 11; messages <= 12; messages++) {
            TopicBroker x = offline(2, 2, messages);
            x.keep(1, 5);
            x.keep(2, 6);
            Check.due("subscribe with 0", x.subscribe(2, Check.list(ONE), 0), 2);
            Check.due("lost", x.lost(2), 0);
            Check.due("waiting", x.waiting(2), messages);
        }
    }

    private static void noRoomIsLost() {
        Check.sentence("only one for which there is no room in the queue is LOST and counted", "no room");
        for (int grade = 1; grade <= 2; grade++) {
            TopicBroker x = offline(0, 2, 12);
            x.keep(1, 5);
            x.keep(2, 6);
            Check.due("publish, offline", x.publish(1, 9, grade), 0);
            Check.due("lost", x.lost(0), 1);
            Check.due("subscribe, offline", x.subscribe(0, Check.list(ONE), grade), 2);
            Check.due("lost", x.lost(0), 3);
        }
        for (int grade = 0; grade <= 2; grade++) {
            TopicBroker x = offline(0, 2, 12);
            x.keep(1, 5);
            x.connect(0, 1);
            Check.due("publish, online", x.publish(1, 9, grade), 0);
            Check.due("lost", x.lost(0), 1);
            Check.due("subscribe, online", x.subscribe(0, 1, grade), 1);
            Check.due("lost", x.lost(0), 2);
        }
    }

    private static void onlyNoRoomIsLost() {
        Check.sentence("only one for which there is no room in the queue is LOST and counted", "room, or none that matches");
        TopicBroker x = new TopicBroker();
        x.subscribe(0, 1, 2);
        for (int i = 0; i < 12; i++) {
            x.publish(1, i, 2);
            Check.due("lost", x.lost(0), 0);
        }
        x.publish(2, 9, 2);
        Check.due("lost, none that matches", x.lost(0), 0);
        x.publish(1, 9, 3);
        x.publish(0, 9, 2);
        x.subscribe(0, 0, 2);
        Check.due("lost, refused calls", x.lost(0), 0);
        x.keep(1, 5);
        x.forget(1);
        x.subscribe(0, Check.list(ONE), 2);
        Check.due("lost, kept and forgotten", x.lost(0), 0);
        x.take(0);
        Check.due("lost, taken", x.lost(0), 0);
    }

    private static void subscribeCountsTopics() {
        Check.sentence("subscribe counts topics, also those whose message does not go to the client.");
        for (int count = 0; count <= 8; count++) {
            TopicBroker x = offline(3, 2, 12);
            for (int i = 0; i < count; i++) {
                x.keep(Check.list(2, i / 5, i % 5), i);
            }
            int f = Check.list(2, Check.REST);
            Check.due("subscribe, offline with 0", x.subscribe(3, f, 0), count);
            Check.due("lost", x.lost(3), 0);
            Check.due("subscribe, offline and full", x.subscribe(3, f, 1), count);
            Check.due("lost", x.lost(3), count);
            x.connect(3, 1);
            x.take(3);
            Check.due("subscribe, room for one", x.subscribe(3, f, 2), count);
            Check.due("lost", x.lost(3), count == 0 ? 0 : 2 * count - 1);
            Check.due("waiting", x.waiting(3), count == 0 ? 11 : 12);
        }
    }
}
