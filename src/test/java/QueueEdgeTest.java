/** The edges that promises 10 to 15 name. */
public final class QueueEdgeTest {
    private static final int ALL = Check.list(Check.REST);
    private static final int[] NOT_ZERO = {1, -1, 2, 256, 1 << 16, 1 << 24, Integer.MIN_VALUE, Integer.MAX_VALUE};

    public static void main(String[] args) {
        goesOffline();
        goesOnline();
        connectWrongClient();
        connectAnswers();
        waitingCounts();
        firstTopicEmpty();
        firstTopicShows();
        firstGradeEmpty();
        firstGradeShows();
        takeAnswersTheValue();
        takeEmpty();
        takeOffline();
        takeWrongClient();
        lostCounts();
        Check.finish();
    }

    private static void goesOffline() {
        Check.sentence("Client c goes offline (on = 0)");
        for (int c = 0; c < 4; c++) {
            TopicBroker x = new TopicBroker();
            for (int each = 0; each < 4; each++) {
                x.subscribe(each, ALL, 0);
            }
            x.connect(c, 0);
            Check.due("publish with 0", x.publish(1, 9, 0), 3);
            Check.due("waiting", x.waiting(c), 0);
            for (int each = 0; each < 4; each++) {
                Check.due("connect(" + each + ")", x.connect(each, 1), each == c ? 0 : 1);
            }
        }
    }

    private static void goesOnline() {
        Check.sentence("or online (on not 0)");
        for (int on : NOT_ZERO) {
            TopicBroker x = new TopicBroker();
            x.subscribe(2, ALL, 0);
            x.connect(2, 0);
            x.connect(2, on);
            Check.due("publish with 0 after connect with " + on, x.publish(1, 9, 0), 1);
            Check.due("take", x.take(2), 9);
            Check.due("connect", x.connect(2, on), 1);
        }
    }

    private static void connectWrongClient() {
        Check.sentence("BAD_ARG if c is not 0 to 3. Otherwise 1 if it was online before");
        Refused.client("connect to offline", (x, c) -> x.connect(c, 0), Check.BAD_ARG);
        Refused.client("connect to online", (x, c) -> x.connect(c, 1), Check.BAD_ARG);
    }

    private static void connectAnswers() {
        Check.sentence("Otherwise 1 if it was online before, else 0.");
        for (int c = 0; c < 4; c++) {
            TopicBroker x = new TopicBroker();
            Check.due("connect, online stays so", x.connect(c, -5), 1);
            Check.due("connect, online to offline", x.connect(c, 0), 1);
            Check.due("connect, offline stays so", x.connect(c, 0), 0);
            Check.due("connect, offline to online", x.connect(c, 1), 0);
            Check.due("connect, online again", x.connect(c, 0), 1);
        }
    }

    private static void waitingCounts() {
        Check.sentence("The number of messages in c's queue; BAD_ARG if c is not 0 to 3.");
        for (int c = 0; c < 4; c++) {
            TopicBroker x = new TopicBroker();
            x.subscribe(c, ALL, 1);
            for (int i = 0; i <= 13; i++) {
                Check.due("waiting after " + i, x.waiting(c), Math.min(i, 12));
                Check.due("waiting, another", x.waiting((c + 1) % 4), 0);
                x.publish(1, i, 1);
            }
            x.connect(c, 0);
            Check.due("waiting, offline", x.waiting(c), 12);
            x.connect(c, 1);
            for (int i = 11; i >= 0; i--) {
                x.take(c);
                Check.due("waiting, " + i + " left", x.waiting(c), i);
            }
        }
        Refused.client("waiting", TopicBroker::waiting, Check.BAD_ARG);
    }

    private static void firstTopicEmpty() {
        Check.sentence("The topic of the first message in c's queue; NONE if it is empty; BAD_ARG if c is not 0 to 3.");
        for (int c = 0; c < 4; c++) {
            int client = c;
            Refused.call("firstTopic(" + c + ")", Standing.NEW, x -> x.firstTopic(client), Check.NONE);
            TopicBroker x = drained(c);
            Check.due("firstTopic, drained", x.firstTopic(c), Check.NONE);
            x.publish(4, 1, 1);
            Check.due("firstTopic, after that", x.firstTopic(c), 4);
        }
        Refused.client("firstTopic", TopicBroker::firstTopic, Check.BAD_ARG);
    }

    /** A broker whose client's queue was full once and is empty again. */
    private static TopicBroker drained(int c) {
        TopicBroker x = new TopicBroker();
        x.subscribe(c, ALL, 2);
        for (int i = 0; i < 13; i++) {
            x.publish(3, 50 + i, 2);
        }
        for (int i = 0; i < 12; i++) {
            x.take(c);
        }
        return x;
    }

    private static void firstTopicShows() {
        Check.sentence("The topic of the first message in c's queue");
        TopicBroker x = new TopicBroker();
        x.subscribe(0, ALL, 2);
        int[] topics = {Check.list(4, 4, 4, 4), Check.list(0), Check.list(4), Check.list(0, 0, 0, 0)};
        for (int t : topics) {
            x.publish(t, 1, 2);
            Check.due("firstTopic", x.firstTopic(0), topics[0]);
        }
        x.connect(0, 0);
        Check.due("firstTopic, offline", x.firstTopic(0), topics[0]);
        x.connect(0, 1);
        for (int t : topics) {
            Check.due("firstTopic", x.firstTopic(0), t);
            x.take(0);
        }
    }

    private static void firstGradeEmpty() {
        Check.sentence("The grade of the first message in c's queue; NONE if it is empty; BAD_ARG if c is not 0 to 3.");
        for (int c = 0; c < 4; c++) {
            int client = c;
            Refused.call("firstGrade(" + c + ")", Standing.NEW, x -> x.firstGrade(client), Check.NONE);
            TopicBroker x = drained(c);
            Check.due("firstGrade, drained", x.firstGrade(c), Check.NONE);
            x.publish(4, 1, 1);
            Check.due("firstGrade, after that", x.firstGrade(c), 1);
        }
        Refused.client("firstGrade", TopicBroker::firstGrade, Check.BAD_ARG);
    }

    private static void firstGradeShows() {
        Check.sentence("The grade of the first message in c's queue");
        TopicBroker x = new TopicBroker();
        x.subscribe(0, ALL, 2);
        int[] grades = {2, 0, 1, 0};
        for (int grade : grades) {
            x.publish(1, 1, grade);
            Check.due("firstGrade", x.firstGrade(0), 2);
        }
        x.subscribe(0, ALL, 0);
        x.unsubscribe(0, ALL);
        x.connect(0, 0);
        Check.due("firstGrade, offline", x.firstGrade(0), 2);
        x.connect(0, 1);
        for (int grade : grades) {
            Check.due("firstGrade", x.firstGrade(0), grade);
            x.take(0);
        }
    }

    private static void takeAnswersTheValue() {
        Check.sentence("Answers its value");
        for (int c = 0; c < 4; c++) {
            TopicBroker x = new TopicBroker();
            for (int each = 0; each < 4; each++) {
                x.subscribe(each, ALL, 2);
            }
            x.publish(1, 0, 2);
            x.publish(1, -1, 2);
            x.publish(1, 9, 2);
            Check.due("take a 0", x.take(c), 0);
            Check.due("it is taken off", x.waiting(c), 2);
            Check.due("take a -1", x.take(c), -1);
            Check.due("take", x.take(c), 9);
            for (int each = 0; each < 4; each++) {
                Check.due("waiting(" + each + ")", x.waiting(each), each == c ? 0 : 3);
            }
        }
    }

    private static void takeEmpty() {
        Check.sentence("0 if the queue is empty, c is offline or c is not 0 to 3 (nothing is taken off then)", "empty");
        for (int c = 0; c < 4; c++) {
            int client = c;
            Refused.call("take(" + c + ")", Standing.NEW, x -> x.take(client), 0);
            TopicBroker x = drained(c);
            Check.due("take, drained", x.take(c), 0);
            Check.due("take, drained, again", x.take(c), 0);
            Check.due("waiting", x.waiting(c), 0);
            x.publish(2, 77, 2);
            Check.due("take, after that", x.take(c), 77);
            x.connect(c, 0);
            Check.due("take, empty and offline", x.take(c), 0);
        }
    }

    private static void takeOffline() {
        Check.sentence("0 if the queue is empty, c is offline or c is not 0 to 3 (nothing is taken off then)", "offline");
        for (int c = 0; c < 4; c++) {
            int client = c;
            Refused.call("take(" + c + ")", Standing.OFFLINE, x -> x.take(client), 0);
        }
        Refused.call("take(1)", Standing.USED, x -> x.take(1), 0);
        Refused.call("take(2)", Standing.FULL, x -> x.take(2), 0);
    }

    private static void takeWrongClient() {
        Check.sentence("0 if the queue is empty, c is offline or c is not 0 to 3 (nothing is taken off then)", "c");
        Refused.client("take", TopicBroker::take, 0);
    }

    private static void lostCounts() {
        Check.sentence("How many messages were lost so far for client c; BAD_ARG if c is not 0 to 3.");
        for (int c = 0; c < 4; c++) {
            TopicBroker x = new TopicBroker();
            x.subscribe(c, ALL, 2);
            for (int i = 0; i < 20; i++) {
                Check.due("lost after " + i, x.lost(c), Math.max(i - 12, 0));
                x.publish(1, i, 2);
            }
            x.take(c);
            x.unsubscribe(c, ALL);
            x.connect(c, 0);
            for (int each = 0; each < 4; each++) {
                Check.due("lost(" + each + ") so far", x.lost(each), each == c ? 8 : 0);
            }
        }
        Refused.client("lost", TopicBroker::lost, Check.BAD_ARG);
    }
}
