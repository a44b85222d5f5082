import java.util.function.Consumer;

/** Promises 2, 5, 9, 11 to 13 and 15 to 17 name an answer alone: these calls change nothing. */
public final class AskingTest {
    // All on one broker, which must stay below 512 calls with those that build and show it.
    private static final int[] FILTERS = Standing.FILTERS;
    private static final int[] TOPICS = {
        Check.list(0), Check.list(1), Check.list(4), Check.list(0, 0), Check.list(0, 1), Check.list(1, 3), Check.list(2, 2),
        Check.list(3, 3), Check.list(1, 1, 1), Check.list(4, 4, 4, 4)};

    public static void main(String[] args) {
        asking("matches", AskingTest::askMatches);
        asking("kept", AskingTest::askKept);
        asking("reached", AskingTest::askReached);
        asking("of the clients", AskingTest::askOfTheClients);
        asking("all", x -> {
            askKept(x);
            askReached(x);
            askOfTheClients(x);
        });
        Check.finish();
    }

    private static void asking(String what, Consumer<TopicBroker> calls) {
        for (Standing standing : Standing.values()) {
            TopicBroker x = standing.make();
            calls.accept(x);
            Check.same("after asking " + what + " on " + standing, Shown.of(x), standing.untouched());
            TopicBroker again = standing.make();
            calls.accept(again);
            Check.same("after asking " + what + " on " + standing, withoutAsking(again), withoutAsking(standing.make()));
        }
    }

    /** What shows in the answers of calls that are not looked at here: Shown asks too, and would change both brokers alike. */
    private static String withoutAsking(TopicBroker x) {
        StringBuilder rows = new StringBuilder();
        for (int c = 0; c < 4; c++) {
            rows.append("| client ").append(c).append(" online ").append(x.connect(c, 1)).append(" values");
            takeAll(x, c, rows);
            rows.append(" grades");
            for (int f : FILTERS) {
                rows.append(' ').append(x.unsubscribe(c, f));
            }
        }
        rows.append(" | kept ").append(x.subscribe(0, Check.list(Check.REST), 1)).append(" values");
        takeAll(x, 0, rows);
        return rows.toString();
    }

    private static void takeAll(TopicBroker x, int c, StringBuilder rows) {
        for (int i = 0; i < 12; i++) {
            rows.append(' ').append(x.take(c));
        }
    }

    private static void askMatches(TopicBroker x) {
        for (int f : FILTERS) {
            for (int t : TOPICS) {
                x.matches(f, t);
            }
        }
    }

    private static void askKept(TopicBroker x) {
        for (int f : FILTERS) {
            x.kept(f);
        }
    }

    private static void askReached(TopicBroker x) {
        for (int t : TOPICS) {
            x.reached(t);
        }
    }

    private static void askOfTheClients(TopicBroker x) {
        for (int c = 0; c < 4; c++) {
            for (int again = 0; again < 2; again++) {
                x.subscriptions(c);
                x.waiting(c);
                x.firstTopic(c);
                x.firstGrade(c);
                x.lost(c);
                x.breadth(c);
            }
        }
    }
}
