/** Refused calls in a row: none of them changes anything, nor do they together. */
public final class RefusedEdgeTest {
    private static final int[] NO_CLIENTS = {-1, 4, Integer.MAX_VALUE};
    private static final int[] NO_GRADES = {-1, 3};
    private static final int[] NO_FILTERS = {0, -1, 8, 4096, Check.list(Check.REST, 0)};
    private static final int[] NO_TOPICS = {0, -1, 8, 4096, Check.list(Check.ONE), Check.list(0, Check.REST)};
    private static final int FILTER = Check.list(Check.REST);
    private static final int TOPIC = Check.list(0);

    public static void main(String[] args) {
        Check.sentence("A refused call answers the code named and changes nothing.");
        for (Standing standing : Standing.values()) {
            TopicBroker x = standing.make();
            wrongClients(x);
            wrongFilters(x);
            wrongTopics(x);
            wrongGrades(x);
            Check.same("after all refused calls on " + standing, Shown.of(x), standing.untouched());
        }
        full();
        none();
        Check.finish();
    }

    private static void bad(String call, int answer) {
        Check.due(call, answer, Check.BAD_ARG);
    }

    private static void wrongClients(TopicBroker x) {
        for (int c : NO_CLIENTS) {
            bad("subscribe", x.subscribe(c, FILTER, 2));
            bad("unsubscribe", x.unsubscribe(c, FILTER));
            bad("subscriptions", x.subscriptions(c));
            bad("connect", x.connect(c, 0));
            bad("waiting", x.waiting(c));
            bad("firstTopic", x.firstTopic(c));
            bad("firstGrade", x.firstGrade(c));
            Check.due("take", x.take(c), 0);
            bad("lost", x.lost(c));
            bad("breadth", x.breadth(c));
        }
    }

    private static void wrongFilters(TopicBroker x) {
        for (int f : NO_FILTERS) {
            for (int c = 0; c < 4; c++) {
                bad("subscribe", x.subscribe(c, f, 2));
                bad("unsubscribe", x.unsubscribe(c, f));
            }
            bad("kept", x.kept(f));
            Check.due("matches", x.matches(f, TOPIC), false);
        }
    }

    private static void wrongTopics(TopicBroker x) {
        for (int t : NO_TOPICS) {
            bad("publish", x.publish(t, 9, 2));
            bad("keep", x.keep(t, 9));
            bad("forget", x.forget(t));
            bad("reached", x.reached(t));
            Check.due("matches", x.matches(FILTER, t), false);
        }
    }

    private static void wrongGrades(TopicBroker x) {
        for (int grade : NO_GRADES) {
            for (int c = 0; c < 4; c++) {
                bad("subscribe", x.subscribe(c, FILTER, grade));
                bad("subscribe", x.subscribe(c, TOPIC, grade));
            }
            bad("publish", x.publish(TOPIC, 9, grade));
        }
    }

    private static void full() {
        TopicBroker x = Standing.FULL.make();
        for (int c = 0; c < 4; c++) {
            for (int grade = 0; grade <= 2; grade++) {
                Check.due("subscribe", x.subscribe(c, FILTER, grade), Check.FULL);
            }
        }
        for (int level = 0; level <= 4; level++) {
            Check.due("keep", x.keep(Check.list(level), 9), Check.FULL);
        }
        Check.same("after FULL", Shown.of(x), Standing.FULL.untouched());
    }

    private static void none() {
        TopicBroker x = Standing.FULL.make();
        for (int c = 0; c < 4; c++) {
            Check.due("unsubscribe", x.unsubscribe(c, FILTER), Check.NONE);
        }
        for (int level = 0; level <= 4; level++) {
            Check.due("forget", x.forget(Check.list(level)), Check.NONE);
        }
        Check.same("after NONE", Shown.of(x), Standing.FULL.untouched());
        TopicBroker empty = new TopicBroker();
        for (int c = 0; c < 4; c++) {
            Check.due("firstTopic", empty.firstTopic(c), Check.NONE);
            Check.due("firstGrade", empty.firstGrade(c), Check.NONE);
            Check.due("take", empty.take(c), 0);
        }
        Check.same("after NONE", Shown.of(empty), Standing.NEW.untouched());
    }
}
