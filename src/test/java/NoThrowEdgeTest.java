import java.util.function.Consumer;

/** No call ever throws: every method with every corner of its arguments, in every standing. */
public final class NoThrowEdgeTest {
    private static final int[] CORNERS = {
        Integer.MIN_VALUE, Integer.MIN_VALUE + 1, -65536, -4096, -585, -13, -8, -5, -4, -1,
        0, 1, 2, 3, 4, 5, 6, 7, 8, 9, 11, 12, 13, 55, 63, 64, 511, 512, 585, 2925, 2926, 3511, 3512, 4095, 4096, 4681,
        65536, 1 << 30, Integer.MAX_VALUE - 1, Integer.MAX_VALUE};
    private static final int CALLS = 300;

    private final Standing standing;
    private TopicBroker broker = new TopicBroker();
    private int left = 0;

    private NoThrowEdgeTest(Standing standing) {
        this.standing = standing;
    }

    public static void main(String[] args) {
        Check.sentence("No call ever throws.");
        for (Standing standing : Standing.values()) {
            new NoThrowEdgeTest(standing).corners();
        }
        Check.finish();
    }

    private void call(String name, Consumer<TopicBroker> made) {
        if (left == 0) {
            broker = standing.make();
            left = CALLS;
        }
        left--;
        String thrown = "nothing";
        try {
            made.accept(broker);
        } catch (Throwable any) {
            thrown = any.toString();
        }
        Check.same(name + " on " + standing, thrown, "nothing");
    }

    private void corners() {
        for (int a : CORNERS) {
            one(a);
            for (int b : CORNERS) {
                two(a, b);
                for (int c : CORNERS) {
                    three(a, b, c);
                }
            }
        }
    }

    private void one(int a) {
        call("subscriptions(" + a + ")", x -> x.subscriptions(a));
        call("forget(" + a + ")", x -> x.forget(a));
        call("kept(" + a + ")", x -> x.kept(a));
        call("waiting(" + a + ")", x -> x.waiting(a));
        call("firstTopic(" + a + ")", x -> x.firstTopic(a));
        call("firstGrade(" + a + ")", x -> x.firstGrade(a));
        call("take(" + a + ")", x -> x.take(a));
        call("lost(" + a + ")", x -> x.lost(a));
        call("reached(" + a + ")", x -> x.reached(a));
        call("breadth(" + a + ")", x -> x.breadth(a));
    }

    private void two(int a, int b) {
        call("matches(" + a + ", " + b + ")", x -> x.matches(a, b));
        call("unsubscribe(" + a + ", " + b + ")", x -> x.unsubscribe(a, b));
        call("keep(" + a + ", " + b + ")", x -> x.keep(a, b));
        call("connect(" + a + ", " + b + ")", x -> x.connect(a, b));
    }

    private void three(int a, int b, int c) {
        call("subscribe(" + a + ", " + b + ", " + c + ")", x -> x.subscribe(a, b, c));
        call("publish(" + a + ", " + b + ", " + c + ")", x -> x.publish(a, b, c));
    }
}
