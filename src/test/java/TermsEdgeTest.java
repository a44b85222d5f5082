import java.util.Set;

/** The edges that "Terms" names for topics, filters, their numbers and matching, and promise 2. */
public final class TermsEdgeTest {
    private static final int ONE = Check.ONE;
    private static final int REST = Check.REST;
    private static final int ALL = Check.list(REST);

    public static void main(String[] args) {
        topicHasOneToFourLevels();
        topicLevelsAreZeroToFour();
        filterHasOneToFourLevels();
        filterLevelsAreZeroToSix();
        restOnlyAsTheLast();
        withoutRestTheSameNumberOfLevels();
        withoutRestEachPlace();
        withRestAtLeastSoManyLevels();
        withRestEachOfTheFirstPlaces();
        listsAsNumbers();
        everyNumberAsTopic();
        everyNumberAsFilter();
        numbersDoNotWrapAround();
        matchesWithoutFilterOrTopic();
        Check.finish();
    }

    /** Asks every method that takes a topic. */
    private static void topic(int t, boolean is) {
        topic(new TopicBroker(), t, is);
    }

    private static void topic(TopicBroker x, int t, boolean is) {
        Check.due("matches(REST, " + t + ")", x.matches(ALL, t), is);
        Check.due("reached(" + t + ")", x.reached(t), is ? 0 : Check.BAD_ARG);
        Check.due("publish(" + t + ", 5, 1)", x.publish(t, 5, 1), is ? 0 : Check.BAD_ARG);
        Check.due("keep(" + t + ", 5)", x.keep(t, 5), is ? 0 : Check.BAD_ARG);
        Check.due("forget(" + t + ")", x.forget(t), is ? 0 : Check.BAD_ARG);
    }

    /** Asks every method that takes a filter. */
    private static void filter(int f, boolean is) {
        filter(new TopicBroker(), f, is);
    }

    private static void filter(TopicBroker x, int f, boolean is) {
        Check.due("kept(" + f + ")", x.kept(f), is ? 0 : Check.BAD_ARG);
        Check.due("subscribe(0, " + f + ", 1)", x.subscribe(0, f, 1), is ? 0 : Check.BAD_ARG);
        Check.due("unsubscribe(0, " + f + ")", x.unsubscribe(0, f), is ? 1 : Check.BAD_ARG);
        if (!is) {
            for (int length = 1; length <= 4; length++) {
                int t = Check.list(new int[length]);
                Check.due("matches(" + f + ", " + t + ")", x.matches(f, t), false);
            }
        }
    }

    private static void topicHasOneToFourLevels() {
        Check.sentence("A TOPIC is a list of 1 to 4 LEVELS");
        for (int level = 0; level <= 4; level++) {
            topic(Check.list(), false);
            for (int length = 1; length <= 4; length++) {
                topic(Check.list(Lists.repeat(level, length)), true);
            }
            for (int length = 5; length <= 12; length++) {
                topic(Check.list(Lists.repeat(level, length)), false);
            }
        }
    }

    private static void topicLevelsAreZeroToFour() {
        Check.sentence("LEVELS, each 0 to 4.");
        for (int length = 1; length <= 4; length++) {
            for (int place = 0; place < length; place++) {
                int[] levels = Lists.repeat(2, length);
                topic(Check.list(Lists.changed(levels, place, 0)), true);
                topic(Check.list(Lists.changed(levels, place, 4)), true);
                topic(Check.list(Lists.changed(levels, place, 5)), false);
                topic(Check.list(Lists.changed(levels, place, 6)), false);
                // A level -1 at the first place is a list that is shorter by one.
                boolean shorter = place == 0 && length > 1;
                topic(Check.list(Lists.changed(levels, place, -1)), shorter);
            }
        }
    }

    private static void filterHasOneToFourLevels() {
        Check.sentence("A FILTER is a list of 1 to 4 levels");
        filter(Check.list(), false);
        for (int level = 0; level <= ONE; level++) {
            for (int length = 1; length <= 4; length++) {
                filter(Check.list(Lists.repeat(level, length)), true);
                filter(Check.list(Lists.with(Lists.repeat(level, length - 1), REST)), true);
            }
            for (int length = 5; length <= 12; length++) {
                filter(Check.list(Lists.repeat(level, length)), false);
                filter(Check.list(Lists.with(Lists.repeat(level, length - 1), REST)), false);
            }
        }
    }

    private static void filterLevelsAreZeroToSix() {
        Check.sentence("each 0 to 4, or 5 (ONE) or 6 (REST)");
        for (int length = 1; length <= 4; length++) {
            for (int place = 0; place < length; place++) {
                int[] levels = Lists.repeat(2, length);
                filter(Check.list(Lists.changed(levels, place, 0)), true);
                filter(Check.list(Lists.changed(levels, place, 4)), true);
                filter(Check.list(Lists.changed(levels, place, ONE)), true);
                boolean shorter = place == 0 && length > 1;
                filter(Check.list(Lists.changed(levels, place, -1)), shorter);
            }
            filter(Check.list(Lists.changed(Lists.repeat(2, length), length - 1, REST)), true);
        }
        // A level 7 carries over into the place before it: 0, 7 is the same number as 1, -1.
        filter(Check.list(7), false);
        filter(Check.list(0, 7), false);
        filter(Check.list(ONE, ONE, ONE, 7), false);
    }

    private static void restOnlyAsTheLast() {
        Check.sentence("REST only as the last one");
        for (int length = 1; length <= 4; length++) {
            for (int place = 0; place < length; place++) {
                for (int other : new int[] {0, 4, ONE}) {
                    int[] levels = Lists.changed(Lists.repeat(other, length), place, REST);
                    filter(Check.list(levels), place == length - 1);
                }
                int[] twice = Lists.changed(Lists.repeat(0, length), length - 1, REST);
                filter(Check.list(Lists.changed(twice, place, REST)), place == length - 1);
            }
            filter(Check.list(Lists.repeat(REST, length)), length == 1);
        }
    }

    private static void match(boolean want, int[] filter, int[] topic) {
        int f = Check.list(filter);
        int t = Check.list(topic);
        Check.due("matches(" + f + ", " + t + ")", new TopicBroker().matches(f, t), want);
    }

    private static void withoutRestTheSameNumberOfLevels() {
        Check.sentence("it has no REST, both have the same number of levels");
        for (int length = 1; length <= 4; length++) {
            for (int other = 1; other <= 4; other++) {
                match(length == other, Lists.repeat(ONE, length), Lists.repeat(0, other));
                match(length == other, Lists.repeat(3, length), Lists.repeat(3, other));
            }
        }
    }

    private static void withoutRestEachPlace() {
        Check.sentence("at each place the filter has ONE or the same level as the topic");
        for (int length = 1; length <= 4; length++) {
            for (int place = 0; place < length; place++) {
                for (int level = 0; level <= 4; level++) {
                    int[] topic = Lists.changed(Lists.repeat(2, length), place, level);
                    match(level == 2, Lists.repeat(2, length), topic);
                    match(true, Lists.changed(Lists.repeat(2, length), place, ONE), topic);
                    match(level == 2, Lists.changed(Lists.repeat(ONE, length), place, 2), topic);
                }
            }
        }
    }

    private static void withRestAtLeastSoManyLevels() {
        Check.sentence("the topic has at least r levels");
        for (int r = 0; r <= 3; r++) {
            for (int length = 1; length <= 4; length++) {
                match(length >= r, Lists.with(Lists.repeat(ONE, r), REST), Lists.repeat(4, length));
                match(length >= r, Lists.with(Lists.repeat(1, r), REST), Lists.repeat(1, length));
            }
        }
    }

    private static void withRestEachOfTheFirstPlaces() {
        Check.sentence("at each of the first r places the filter has ONE or the same level");
        for (int r = 0; r <= 3; r++) {
            for (int length = r == 0 ? 1 : r; length <= 4; length++) {
                for (int place = 0; place < length; place++) {
                    int[] topic = Lists.changed(Lists.repeat(2, length), place, 3);
                    match(place >= r, Lists.with(Lists.repeat(2, r), REST), topic);
                    match(true, Lists.with(Lists.repeat(ONE, r), REST), topic);
                }
            }
        }
    }

    private static void listsAsNumbers() {
        Check.sentence("begin with 0, and for each level l, from the first on, make number * 8 + l + 1 of it");
        TopicBroker x = new TopicBroker();
        int first = ((1 * 8 + 2) * 8 + 3) * 8 + 4;
        x.subscribe(0, ALL, 0);
        x.publish(first, 9, 0);
        Check.due("firstTopic", x.firstTopic(0), first);
        Check.due("0, 1, 2, 3 matches itself", x.matches(first, first), true);
        Check.due("0, REST matches it", x.matches(1 * 8 + 7, first), true);
        Check.due("3, REST does not", x.matches(4 * 8 + 7, first), false);
        Check.due("ONE, ONE, ONE, 3 matches it", x.matches(((6 * 8 + 6) * 8 + 6) * 8 + 4, first), true);
        topic(0, false);
        topic(1, true);
        topic(5, true);
        topic(6, false);
        topic(8, false);
        topic(9, true);
        topic(2925, true);
        topic(2926, false);
        filter(0, false);
        filter(1, true);
        filter(7, true);
        filter(8, false);
        filter(3511, true);
        filter(3512, false);
        filter(4095, false);
        filter(4096, false);
    }

    private static void everyNumberAsTopic() {
        Check.sentence("of all there are (780 of them)");
        Set<Integer> topics = Lists.topics();
        Check.due("topics", topics.size(), 780);
        TopicBroker x = new TopicBroker();
        for (int n = -5000; n <= 40000; n++) {
            if (n % 100 == 0) {
                x = new TopicBroker();
            }
            topic(x, n, topics.contains(n));
        }
    }

    private static void everyNumberAsFilter() {
        Check.sentence("A FILTER is a list of 1 to 4 levels, each 0 to 4, or 5 (ONE) or 6 (REST); REST only as the last one.");
        Set<Integer> filters = Lists.filters();
        Check.due("filters", filters.size(), 6 + 36 + 216 + 1296 + 1 + 6 + 36 + 216);
        TopicBroker x = new TopicBroker();
        for (int n = -5000; n <= 40000; n++) {
            if (n % 50 == 0) {
                x = new TopicBroker();
            }
            filter(x, n, filters.contains(n));
        }
    }

    private static void numbersDoNotWrapAround() {
        Check.sentence("A list of levels is handed over as a number");
        for (int n : new int[] {1, 5, Check.list(2, 3), Check.list(4, 4, 4, 4)}) {
            topic(-n, false);
            filter(-n, false);
            for (int bit = 12; bit < 32; bit++) {
                topic(n + (1 << bit), false);
                filter(n + (1 << bit), false);
                topic(n - (1 << bit), false);
                filter(n - (1 << bit), false);
            }
        }
        for (int end : new int[] {Integer.MIN_VALUE, Integer.MIN_VALUE + 1, Integer.MAX_VALUE - 1, Integer.MAX_VALUE}) {
            topic(end, false);
            filter(end, false);
        }
    }

    private static void matchesWithoutFilterOrTopic() {
        Check.sentence("false if f is no filter or t no topic");
        TopicBroker x = new TopicBroker();
        for (int f : Check.noFilters()) {
            Check.due("matches(" + f + ", 1)", x.matches(f, 1), false);
            Check.due("matches(" + f + ", itself)", x.matches(f, f), false);
        }
        for (int t : Check.noTopics()) {
            Check.due("matches(REST, " + t + ")", x.matches(ALL, t), false);
            Check.due("matches(ONE, " + t + ")", x.matches(Check.list(ONE), t), false);
            Check.due("matches(itself, " + t + ")", x.matches(t, t), false);
        }
    }
}
