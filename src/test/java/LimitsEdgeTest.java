import java.util.function.IntUnaryOperator;

/** The edges that "What it is" and "Terms" name for calls, clients, subscriptions, queues, grades and values; promise 1. */
public final class LimitsEdgeTest {
    private static final int ALL = Check.list(Check.REST);
    private static final int[] VALUES = {0, 1, -1, -2, -4, 127, 128, -129, 32768, -32769, Integer.MIN_VALUE, Integer.MAX_VALUE};

    public static void main(String[] args) {
        newObject();
        lostUpToTheLastCall();
        mostThatCanBeLost();
        queueRoundAndRound();
        subscriptionsRoundAndRound();
        keptRoundAndRound();
        clientsAreZeroToThree();
        atMostFiveSubscriptions();
        differentFilters();
        gradesAreZeroToTwo();
        onlineAtFirst();
        atMostTwelveMessages();
        anyIntIsAValue();
        Check.finish();
    }

    private static void newObject() {
        Check.sentence("No subscription, no kept value, all queues empty, all clients online.");
        for (int c = 0; c < 4; c++) {
            TopicBroker x = new TopicBroker();
            Check.due("subscriptions", x.subscriptions(c), 0);
            Check.due("breadth", x.breadth(c), 0);
            Check.due("unsubscribe", x.unsubscribe(c, ALL), Check.NONE);
            Check.due("waiting", x.waiting(c), 0);
            Check.due("firstTopic", x.firstTopic(c), Check.NONE);
            Check.due("firstGrade", x.firstGrade(c), Check.NONE);
            Check.due("take", x.take(c), 0);
            Check.due("lost", x.lost(c), 0);
            Check.due("connect", x.connect(c, 0), 1);
            Check.due("subscribe", new TopicBroker().subscribe(c, ALL, 2), 0);
        }
        for (int t : Lists.topics()) {
            TopicBroker x = new TopicBroker();
            Check.due("kept", x.kept(t), 0);
            Check.due("forget", x.forget(t), Check.NONE);
            Check.due("reached", x.reached(t), 0);
            Check.due("publish", x.publish(t, 1, 2), 0);
            Check.due("keep", x.keep(t, 1), 0);
        }
    }

    private static void lostUpToTheLastCall() {
        Check.sentence("An object is used for at most 512 calls after it has been made");
        TopicBroker x = new TopicBroker();
        x.subscribe(0, 1, 2);
        for (int call = 2; call <= 511; call++) {
            Check.due("publish, call " + call, x.publish(1, call, 2), call <= 13 ? 1 : 0);
        }
        Check.due("lost, call 512", x.lost(0), 510 - 12);
    }

    private static void mostThatCanBeLost() {
        Check.sentence("How many messages were lost so far for client c");
        TopicBroker x = new TopicBroker();
        for (int i = 0; i < 8; i++) {
            x.keep(Check.list(i / 4, i % 4), i);
        }
        for (int call = 9; call <= 511; call++) {
            Check.due("subscribe, call " + call, x.subscribe(3, ALL, call % 3), 8);
        }
        Check.due("lost, call 512", x.lost(3), 503 * 8 - 12);
    }

    private static void queueRoundAndRound() {
        Check.sentence("Takes the first message off c's queue.");
        for (int filled = 0; filled < 12; filled++) {
            TopicBroker x = new TopicBroker();
            x.subscribe(1, Check.list(Check.ONE), 2);
            for (int i = 0; i < filled; i++) {
                x.publish(1 + i % 5, i, i % 3);
            }
            for (int i = filled; i < filled + 100; i++) {
                int first = i - filled;
                Check.due("publish", x.publish(1 + i % 5, i, i % 3), 1);
                Check.due("firstTopic", x.firstTopic(1), 1 + first % 5);
                Check.due("firstGrade", x.firstGrade(1), first % 3);
                Check.due("take", x.take(1), first);
            }
            Check.due("waiting", x.waiting(1), filled);
            Check.due("lost", x.lost(1), 0);
        }
    }

    private static void subscriptionsRoundAndRound() {
        Check.sentence("Client c's subscription to f ends.");
        for (int held = 0; held < 5; held++) {
            TopicBroker x = new TopicBroker();
            for (int i = 0; i < held; i++) {
                x.subscribe(2, another(i), i % 3);
            }
            for (int i = held; i < held + 125; i++) {
                int oldest = i - held;
                Check.due("subscribe", x.subscribe(2, another(i), i % 3), 0);
                Check.due("subscriptions", x.subscriptions(2), held + 1);
                Check.due("unsubscribe the oldest", x.unsubscribe(2, another(oldest)), oldest % 3);
                Check.due("subscriptions", x.subscriptions(2), held);
            }
        }
    }

    /** A topic, and so a filter too; the same one comes again only after 25 others. */
    private static int another(int i) {
        return i < 5 ? 1 + i : Check.list(i % 5, i / 5 % 5);
    }

    private static void keptRoundAndRound() {
        Check.sentence("Topic t no longer has a kept value.");
        for (int held = 0; held < 8; held++) {
            TopicBroker x = new TopicBroker();
            for (int i = 0; i < held; i++) {
                x.keep(another(i), i);
            }
            for (int i = held; i < held + 125; i++) {
                Check.due("keep", x.keep(another(i), i), 0);
                Check.due("kept", x.kept(ALL), held + 1);
                Check.due("forget the oldest", x.forget(another(i - held)), 0);
                Check.due("kept", x.kept(ALL), held);
            }
        }
    }

    private static void client(String name, int right, int wrong, IntUnaryOperator call) {
        for (int c = 0; c <= 3; c++) {
            Check.due(name + " with " + c, call.applyAsInt(c), right);
        }
        for (int c : Check.noClients()) {
            Check.due(name + " with " + c, call.applyAsInt(c), wrong);
        }
    }

    private static void clientsAreZeroToThree() {
        Check.sentence("CLIENTS are 0 to 3.");
        TopicBroker x = new TopicBroker();
        client("subscribe", 0, Check.BAD_ARG, c -> x.subscribe(c, ALL, 1));
        client("subscriptions", 1, Check.BAD_ARG, x::subscriptions);
        x.publish(3, 9, 1);
        client("waiting", 1, Check.BAD_ARG, x::waiting);
        client("firstTopic", 3, Check.BAD_ARG, x::firstTopic);
        client("firstGrade", 1, Check.BAD_ARG, x::firstGrade);
        client("take", 9, 0, x::take);
        client("lost", 0, Check.BAD_ARG, x::lost);
        client("breadth", 780, Check.BAD_ARG, x::breadth);
        client("connect", 1, Check.BAD_ARG, c -> x.connect(c, 1));
        client("unsubscribe", 1, Check.BAD_ARG, c -> x.unsubscribe(c, ALL));
    }

    private static void atMostFiveSubscriptions() {
        Check.sentence("A client has SUBSCRIPTIONS, at most 5");
        TopicBroker x = new TopicBroker();
        for (int c = 0; c < 4; c++) {
            for (int i = 0; i < 5; i++) {
                Check.due("subscribe, " + i + " before", x.subscribe(c, Check.list(c, i), 1), 0);
                Check.due("subscriptions", x.subscriptions(c), i + 1);
            }
            Check.due("a sixth", x.subscribe(c, ALL, 1), Check.FULL);
            Check.due("subscriptions", x.subscriptions(c), 5);
            Check.due("breadth", x.breadth(c), 5);
        }
    }

    private static void differentFilters() {
        Check.sentence("to different filters");
        TopicBroker x = new TopicBroker();
        Check.due("REST", x.subscribe(0, ALL, 0), 0);
        Check.due("ONE, REST matches the same topics", x.subscribe(0, Check.list(Check.ONE, Check.REST), 1), 0);
        Check.due("both are there", x.subscriptions(0), 2);
        Check.due("REST again", x.subscribe(0, ALL, 2), 0);
        Check.due("it is the same one", x.subscriptions(0), 2);
        Check.due("another client has its own", x.subscriptions(1), 0);
        Check.due("unsubscribe REST", x.unsubscribe(0, ALL), 2);
        Check.due("unsubscribe REST again", x.unsubscribe(0, ALL), Check.NONE);
        Check.due("unsubscribe ONE, REST", x.unsubscribe(0, Check.list(Check.ONE, Check.REST)), 1);
    }

    private static void gradesAreZeroToTwo() {
        Check.sentence("each with a GRADE, 0 to 2");
        TopicBroker x = new TopicBroker();
        for (int grade = 0; grade <= 2; grade++) {
            Check.due("subscribe with " + grade, x.subscribe(0, ALL, grade), 0);
            Check.due("publish with " + grade, x.publish(1, 1, grade), 1);
            Check.due("unsubscribe", x.unsubscribe(0, ALL), grade);
        }
        for (int grade : Check.noGrades()) {
            Check.due("subscribe with " + grade, x.subscribe(0, ALL, grade), Check.BAD_ARG);
            Check.due("publish with " + grade, x.publish(1, 1, grade), Check.BAD_ARG);
        }
    }

    private static void onlineAtFirst() {
        Check.sentence("A client is ONLINE or not (at first it is).");
        for (int c = 0; c < 4; c++) {
            TopicBroker x = new TopicBroker();
            x.subscribe(c, ALL, 0);
            Check.due("publish with 0", x.publish(1, 7, 0), 1);
            Check.due("take", x.take(c), 7);
            Check.due("connect", x.connect(c, 0), 1);
        }
    }

    private static void atMostTwelveMessages() {
        Check.sentence("Its QUEUE is a list of MESSAGES, at most 12");
        for (int c = 0; c < 4; c++) {
            TopicBroker x = new TopicBroker();
            x.subscribe(c, ALL, 2);
            for (int i = 1; i <= 12; i++) {
                Check.due("publish " + i, x.publish(1, i, 2), 1);
                Check.due("waiting", x.waiting(c), i);
            }
            Check.due("publish 13", x.publish(1, 13, 2), 0);
            Check.due("waiting", x.waiting(c), 12);
            for (int i = 1; i <= 12; i++) {
                Check.due("take " + i, x.take(c), i);
            }
            Check.due("waiting", x.waiting(c), 0);
        }
    }

    private static void anyIntIsAValue() {
        Check.sentence("a VALUE (an int)");
        for (int value : VALUES) {
            TopicBroker x = new TopicBroker();
            x.subscribe(0, ALL, 1);
            Check.due("publish", x.publish(1, value, 1), 1);
            Check.due("take", x.take(0), value);
            Check.due("waiting", x.waiting(0), 0);
            Check.due("keep", x.keep(1, value), 0);
            Check.due("keep the same again", x.keep(1, value), 1);
            Check.due("kept", x.kept(1), 1);
            Check.due("subscribe", x.subscribe(1, 1, 1), 1);
            Check.due("take", x.take(1), value);
            Check.due("waiting", x.waiting(1), 0);
            Check.due("forget", x.forget(1), 0);
        }
    }
}
