/** Promises 16 and 17. */
public final class ReachTest {
    private static final int ONE = Check.ONE;
    private static final int REST = Check.REST;

    public static void main(String[] args) {
        reached();
        reachedAsksOnlyForSubscriptions();
        breadthOfOne();
        breadthCountsEachTopicOnce();
        wrongInputs();
        Check.finish();
    }

    private static void reached() {
        for (int set = 0; set < 16; set++) {
            TopicBroker x = new TopicBroker();
            for (int c = 0; c < 4; c++) {
                if ((set >> c & 1) == 1) {
                    x.subscribe(c, Check.list(ONE, 2, REST), 0);
                    x.subscribe(c, Check.list(3, 2), 0);
                }
            }
            Check.due("reached", x.reached(Check.list(3, 2)), set);
            Check.due("reached deeper", x.reached(Check.list(3, 2, 4)), set);
            Check.due("reached elsewhere", x.reached(Check.list(3, 1)), 0);
        }
    }

    private static void reachedAsksOnlyForSubscriptions() {
        TopicBroker x = new TopicBroker();
        x.subscribe(1, 1, 0);
        x.connect(1, 0);
        Check.due("reached, offline", x.reached(1), 2);
        x.connect(1, 1);
        for (int i = 0; i < 13; i++) {
            x.publish(1, i, 0);
        }
        Check.due("reached, queue full", x.reached(1), 2);
        Check.due("reached sends nothing", x.lost(1), 1);
        x.unsubscribe(1, 1);
        Check.due("reached, unsubscribed", x.reached(1), 0);
    }

    private static void breadth(int want, int... levels) {
        TopicBroker x = new TopicBroker();
        x.subscribe(2, Check.list(levels), 0);
        Check.due("breadth", x.breadth(2), want);
        Check.due("breadth of another", x.breadth(1), 0);
    }

    private static void breadthOfOne() {
        breadth(1, 0);
        breadth(1, 4, 4, 4, 4);
        breadth(5, ONE);
        breadth(25, ONE, ONE);
        breadth(125, ONE, ONE, ONE);
        breadth(625, ONE, ONE, ONE, ONE);
        breadth(5, 0, ONE, 3, 4);
        breadth(780, REST);
        breadth(156, 4, REST);
        breadth(780, ONE, REST);
        breadth(31, 4, 4, REST);
        breadth(775, ONE, ONE, REST);
        breadth(6, 0, 0, 0, REST);
        breadth(750, ONE, ONE, ONE, REST);
    }

    private static void breadthCountsEachTopicOnce() {
        TopicBroker x = new TopicBroker();
        x.subscribe(0, Check.list(0, REST), 0);
        x.subscribe(0, Check.list(0), 0);
        x.subscribe(0, Check.list(ONE), 0);
        Check.due("breadth", x.breadth(0), 160);
        x.subscribe(0, Check.list(ONE, 1), 0);
        Check.due("breadth", x.breadth(0), 164);
        x.subscribe(0, Check.list(REST), 0);
        Check.due("breadth", x.breadth(0), 780);
        x.unsubscribe(0, Check.list(REST));
        x.unsubscribe(0, Check.list(0, REST));
        Check.due("breadth", x.breadth(0), 10);
        x.connect(0, 0);
        Check.due("breadth, offline", x.breadth(0), 10);
    }

    private static void wrongInputs() {
        TopicBroker x = new TopicBroker();
        for (int c = 0; c < 4; c++) {
            x.subscribe(c, Check.list(REST), 0);
        }
        for (int t : Check.noTopics()) {
            Check.due("reached t " + t, x.reached(t), Check.BAD_ARG);
        }
        for (int c : Check.noClients()) {
            Check.due("breadth c " + c, x.breadth(c), Check.BAD_ARG);
        }
    }
}
