/** Promises 7, 8 and 9. */
public final class KeptTest {
    private static final int ALL = Check.list(Check.REST);

    public static void main(String[] args) {
        keepAndForget();
        keepPublishesNothing();
        atMostEight();
        forgettingLeavesTheOthers();
        keptCountsMatches();
        anyIntIsAValue();
        wrongInputs();
        Check.finish();
    }

    private static void keepAndForget() {
        TopicBroker x = new TopicBroker();
        Check.due("forget", x.forget(1), Check.NONE);
        Check.due("keep", x.keep(1, 5), 0);
        Check.due("keep again", x.keep(1, 6), 1);
        Check.due("kept", x.kept(ALL), 1);
        x.subscribe(0, 1, 0);
        Check.due("the later value counts", x.take(0), 6);
        Check.due("forget", x.forget(1), 0);
        Check.due("forget again", x.forget(1), Check.NONE);
        Check.due("kept", x.kept(ALL), 0);
        Check.due("subscribe", x.subscribe(0, 1, 0), 0);
        Check.due("waiting", x.waiting(0), 0);
        Check.due("keep after forget", x.keep(1, 7), 0);
    }

    private static void keepPublishesNothing() {
        TopicBroker x = new TopicBroker();
        x.subscribe(0, ALL, 2);
        x.keep(1, 5);
        x.keep(1, 6);
        Check.due("waiting", x.waiting(0), 0);
        x.forget(1);
        Check.due("waiting", x.waiting(0), 0);
    }

    private static void atMostEight() {
        TopicBroker x = new TopicBroker();
        for (int i = 0; i < 8; i++) {
            Check.due("keep", x.keep(Check.list(i / 4, i % 4), i), 0);
        }
        Check.due("a ninth", x.keep(1, 100), Check.FULL);
        Check.due("kept", x.kept(ALL), 8);
        Check.due("kept, the ninth", x.kept(1), 0);
        Check.due("no topic, with eight", x.keep(0, 100), Check.BAD_ARG);
        Check.due("one of the eight", x.keep(Check.list(1, 3), 100), 1);
        Check.due("kept", x.kept(ALL), 8);
        Check.due("forget", x.forget(Check.list(0, 2)), 0);
        Check.due("there is room again", x.keep(1, 100), 0);
        Check.due("but for one only", x.keep(2, 100), Check.FULL);
    }

    private static void forgettingLeavesTheOthers() {
        for (int gone = 0; gone < 8; gone++) {
            TopicBroker x = new TopicBroker();
            for (int i = 7; i >= 0; i--) {
                x.keep(Check.list(i / 4, i % 4), 10 + i);
            }
            x.forget(Check.list(gone / 4, gone % 4));
            Check.due("subscribe", x.subscribe(0, ALL, 0), 7);
            for (int i = 0; i < 8; i++) {
                if (i != gone) {
                    Check.due("firstTopic", x.firstTopic(0), Check.list(i / 4, i % 4));
                    Check.due("take", x.take(0), 10 + i);
                }
            }
            Check.due("waiting", x.waiting(0), 0);
        }
    }

    private static void keptCountsMatches() {
        TopicBroker x = new TopicBroker();
        int[][] topics = {{0}, {0, 0}, {0, 1}, {0, 1, 2}, {1}, {1, 1}, {0, 1, 2, 3}};
        for (int[] topic : topics) {
            x.keep(Check.list(topic), 1);
        }
        Check.due("kept(0)", x.kept(Check.list(0)), 1);
        Check.due("kept(2)", x.kept(Check.list(2)), 0);
        Check.due("kept(ONE)", x.kept(Check.list(Check.ONE)), 2);
        Check.due("kept(ONE, 1)", x.kept(Check.list(Check.ONE, 1)), 2);
        Check.due("kept(0, REST)", x.kept(Check.list(0, Check.REST)), 5);
        Check.due("kept(ONE, 1, REST)", x.kept(Check.list(Check.ONE, 1, Check.REST)), 4);
        Check.due("kept(ONE, ONE, ONE, REST)", x.kept(Check.list(Check.ONE, Check.ONE, Check.ONE, Check.REST)), 2);
        Check.due("kept(REST)", x.kept(ALL), 7);
    }

    private static void anyIntIsAValue() {
        TopicBroker x = new TopicBroker();
        x.keep(1, 0);
        x.keep(2, Integer.MIN_VALUE);
        x.keep(3, Integer.MAX_VALUE);
        x.keep(4, -4);
        Check.due("keep over a 0", x.keep(1, 0), 1);
        Check.due("subscribe", x.subscribe(0, ALL, 1), 4);
        Check.due("take", x.take(0), 0);
        Check.due("take", x.take(0), Integer.MIN_VALUE);
        Check.due("take", x.take(0), Integer.MAX_VALUE);
        Check.due("take", x.take(0), -4);
        Check.due("forget a 0", x.forget(1), 0);
    }

    private static void wrongInputs() {
        TopicBroker x = new TopicBroker();
        for (int t : Check.noTopics()) {
            Check.due("keep t " + t, x.keep(t, 1), Check.BAD_ARG);
            Check.due("forget t " + t, x.forget(t), Check.BAD_ARG);
        }
        for (int f : Check.noFilters()) {
            Check.due("kept f " + f, x.kept(f), Check.BAD_ARG);
        }
        Check.due("kept", x.kept(ALL), 0);
    }
}
