/** Promises 1 to 18 together: long runs of mixed calls, each answer compared with the model's. */
public final class ModelTest {
    private static final int RUNS = 400;
    private static final int CALLS = 512;

    // A fixed sequence in place of a random source: every run of the test makes the same calls.
    private long state;
    private final TopicBroker broker = new TopicBroker();
    private final Model model = new Model();
    private String trail = "";

    private ModelTest(int run) {
        state = run * 7919L + 17;
    }

    public static void main(String[] args) {
        for (int run = 0; run < RUNS; run++) {
            new ModelTest(run).run(run);
        }
        Check.finish();
    }

    private void run(int run) {
        // Some runs use few levels, so that topics, filters and kept values meet often.
        int levels = run % 2 == 0 ? 2 : 5;
        for (int i = 0; i < CALLS; i++) {
            call(run, below(20), levels);
        }
    }

    private int below(int bound) {
        state = state * 6364136223846793005L + 1442695040888963407L;
        return (int) ((state >>> 33) % bound);
    }

    private int client() {
        return below(40) == 0 ? below(8) - 2 : below(4);
    }

    private int grade() {
        return below(40) == 0 ? below(8) - 2 : below(3);
    }

    private int value() {
        return below(4) == 0 ? (int) state : below(100) - 50;
    }

    private int topic(int levels) {
        if (below(40) == 0) {
            return below(5000) - 200;
        }
        int number = 0;
        int count = 1 + below(levels == 2 ? 2 : 4);
        for (int i = 0; i < count; i++) {
            number = number * 8 + 1 + below(levels);
        }
        return number;
    }

    private int filter(int levels) {
        int number = topic(levels);
        for (int shift = 0; shift < 12 && number >> shift > 0; shift += 3) {
            if (below(3) == 0) {
                number = number & ~(7 << shift) | 6 << shift;
            }
        }
        return below(3) == 0 ? number | 7 : number;
    }

    private void compare(int run, String call, long got, long want) {
        trail = trail + call + " ";
        Check.due("run " + run + ": " + (got == want ? "" : trail), got, want);
    }

    private void call(int run, int which, int levels) {
        int c = client();
        int f = filter(levels);
        int t = topic(levels);
        int g = grade();
        int v = value();
        switch (which) {
            case 0 -> compare(run, "matches(" + f + "," + t + ")", broker.matches(f, t) ? 1 : 0, model.matches(f, t) ? 1 : 0);
            case 1, 2 -> compare(run, "subscribe(" + c + "," + f + "," + g + ")", broker.subscribe(c, f, g), model.subscribe(c, f, g));
            case 3, 4 -> compare(run, "unsubscribe(" + c + "," + f + ")", broker.unsubscribe(c, f), model.unsubscribe(c, f));
            case 5 -> compare(run, "subscriptions(" + c + ")", broker.subscriptions(c), model.subscriptions(c));
            case 6, 7, 8 -> compare(run, "publish(" + t + "," + v + "," + g + ")", broker.publish(t, v, g), model.publish(t, v, g));
            case 9 -> compare(run, "keep(" + t + "," + v + ")", broker.keep(t, v), model.keep(t, v));
            case 10 -> compare(run, "forget(" + t + ")", broker.forget(t), model.forget(t));
            case 11 -> compare(run, "kept(" + f + ")", broker.kept(f), model.kept(f));
            case 12 -> connect(run, c, below(3) - 1);
            case 13 -> compare(run, "waiting(" + c + ")", broker.waiting(c), model.waiting(c));
            case 14 -> compare(run, "firstTopic(" + c + ")", broker.firstTopic(c), model.firstTopic(c));
            case 15 -> compare(run, "firstGrade(" + c + ")", broker.firstGrade(c), model.firstGrade(c));
            case 16, 17 -> compare(run, "take(" + c + ")", broker.take(c), model.take(c));
            case 18 -> compare(run, "lost(" + c + ")", broker.lost(c), model.lost(c));
            default -> reach(run, c, t);
        }
    }

    private void connect(int run, int c, int on) {
        compare(run, "connect(" + c + "," + on + ")", broker.connect(c, on), model.connect(c, on));
    }

    private void reach(int run, int c, int t) {
        if (below(4) == 0) {
            compare(run, "breadth(" + c + ")", broker.breadth(c), model.breadth(c));
        } else {
            compare(run, "reached(" + t + ")", broker.reached(t), model.reached(t));
        }
    }
}
