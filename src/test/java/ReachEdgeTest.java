/** The edges that promises 16 and 17 name. */
public final class ReachEdgeTest {
    private static final int ONE = Check.ONE;
    private static final int REST = Check.REST;
    private static final int ALL = Check.list(REST);

    public static void main(String[] args) {
        setOfTheClients();
        withASubscriptionThatMatches();
        reachedWrongTopic();
        breadthOfNoneAndAll();
        breadthOfEachFilter();
        breadthCountsATopicOnce();
        breadthWrongClient();
        Check.finish();
    }

    private static void setOfTheClients() {
        Check.sentence("The set of the clients, as the sum of 2 to the power c");
        for (int set = 0; set < 16; set++) {
            TopicBroker x = new TopicBroker();
            for (int c = 0; c < 4; c++) {
                if ((set >> c & 1) == 1) {
                    x.subscribe(c, Check.list(4, REST), 0);
                    x.subscribe(c, ALL, 0);
                }
            }
            Check.due("reached, one level", x.reached(Check.list(4)), set);
            Check.due("reached, four levels", x.reached(Check.list(4, 4, 4, 4)), set);
        }
    }

    private static void withASubscriptionThatMatches() {
        Check.sentence("with a subscription that matches topic t");
        for (int place = 0; place < 5; place++) {
            TopicBroker x = new TopicBroker();
            for (int i = 0; i < 5; i++) {
                x.subscribe(3, i == place ? Check.list(2, ONE) : Check.list(1, i), 0);
            }
            Check.due("reached", x.reached(Check.list(2, 0)), 8);
            Check.due("reached where none matches", x.reached(Check.list(2)), 0);
            x.connect(3, 0);
            Check.due("reached, offline", x.reached(Check.list(2, 0)), 8);
            x.unsubscribe(3, Check.list(2, ONE));
            Check.due("reached, ended", x.reached(Check.list(2, 0)), 0);
        }
        Check.due("reached, queue full", Standing.FULL.make().reached(Check.list(0)), 15);
    }

    private static void reachedWrongTopic() {
        Check.sentence("BAD_ARG if t is no topic", "reached");
        for (Standing standing : Standing.values()) {
            for (int t : Check.noTopics()) {
                Refused.call("reached(" + t + ")", standing, x -> x.reached(t), Check.BAD_ARG);
            }
        }
    }

    private static void breadthOfNoneAndAll() {
        Check.sentence("How many topics, of all there are (780 of them)");
        for (int c = 0; c < 4; c++) {
            TopicBroker x = new TopicBroker();
            Check.due("breadth without a subscription", x.breadth(c), 0);
            x.subscribe(c, ALL, 0);
            Check.due("breadth of REST", x.breadth(c), 780);
            x.subscribe(c, Check.list(4, 4, 4, 4), 0);
            Check.due("breadth of REST and one more", x.breadth(c), 780);
            x.unsubscribe(c, ALL);
            Check.due("breadth of one topic", x.breadth(c), 1);
            x.unsubscribe(c, Check.list(4, 4, 4, 4));
            Check.due("breadth, all ended", x.breadth(c), 0);
        }
    }

    private static void breadthOfEachFilter() {
        Check.sentence("some subscription of client c matches");
        for (int length = 1; length <= 4; length++) {
            for (int[] levels : Lists.ofLength(length, ONE)) {
                breadth(levels, choices(levels));
            }
        }
        for (int r = 0; r <= 3; r++) {
            int tails = r == 0 ? 780 : 0;
            for (int more = 0; r > 0 && more <= 4 - r; more++) {
                tails += power(more);
            }
            for (int[] levels : Lists.ofLength(r, ONE)) {
                breadth(Lists.with(levels, REST), choices(levels) * tails);
            }
        }
    }

    private static void breadth(int[] filter, int want) {
        TopicBroker x = new TopicBroker();
        int f = Check.list(filter);
        x.subscribe(1, f, 0);
        Check.due("breadth with " + f, x.breadth(1), want);
        Check.due("breadth of another", x.breadth(2), 0);
    }

    private static int power(int exponent) {
        return exponent == 0 ? 1 : 5 * power(exponent - 1);
    }

    /** In how many ways the levels can be filled in: ONE stands for any of 5. */
    private static int choices(int[] levels) {
        int count = 0;
        for (int level : levels) {
            count += level == ONE ? 1 : 0;
        }
        return power(count);
    }

    private static void breadthCountsATopicOnce() {
        Check.sentence("How many topics, of all there are (780 of them), some subscription of client c matches");
        TopicBroker x = new TopicBroker();
        x.subscribe(0, Check.list(ONE), 0);
        x.subscribe(0, Check.list(0), 0);
        Check.due("one within the other", x.breadth(0), 5);
        x.subscribe(0, Check.list(ONE, 0), 0);
        x.subscribe(0, Check.list(0, ONE), 0);
        Check.due("two that cross in one topic", x.breadth(0), 5 + 5 + 5 - 1);
        x.subscribe(0, Check.list(4, 4, 4, 4), 0);
        Check.due("five", x.breadth(0), 15);
        x.connect(0, 0);
        Check.due("offline", x.breadth(0), 15);
    }

    private static void breadthWrongClient() {
        Check.sentence("BAD_ARG if c is not 0 to 3", "breadth");
        Refused.client("breadth", TopicBroker::breadth, Check.BAD_ARG);
    }
}
