import java.util.ArrayList;
import java.util.List;

/** Promise 2: told cases, and every pair of numbers around the valid ones against the words of the document. */
public final class MatchesTest {
    private static final int FROM = -20;
    private static final int TO = 4200;
    private static final int CALLS_AN_OBJECT = 512;

    public static void main(String[] args) {
        withoutRest();
        withRest();
        noFilterOrNoTopic();
        everyPair();
        Check.finish();
    }

    private static void match(boolean want, int f, int t) {
        Check.due("matches(" + f + ", " + t + ")", new TopicBroker().matches(f, t), want);
    }

    private static void withoutRest() {
        match(true, Check.list(0), Check.list(0));
        match(true, Check.list(4, 3, 2, 1), Check.list(4, 3, 2, 1));
        match(false, Check.list(4, 3, 2, 1), Check.list(4, 3, 2, 0));
        match(false, Check.list(4, 3, 2, 1), Check.list(1, 2, 3, 4));
        match(false, Check.list(0), Check.list(0, 0));
        match(false, Check.list(0, 0), Check.list(0));
        match(true, Check.list(Check.ONE), Check.list(4));
        match(false, Check.list(Check.ONE), Check.list(4, 4));
        match(true, Check.list(1, Check.ONE, 3), Check.list(1, 0, 3));
        match(false, Check.list(1, Check.ONE, 3), Check.list(1, 0, 2));
        match(false, Check.list(1, Check.ONE), Check.list(1));
    }

    private static void withRest() {
        match(true, Check.list(Check.REST), Check.list(0));
        match(true, Check.list(Check.REST), Check.list(4, 4, 4, 4));
        match(true, Check.list(2, Check.REST), Check.list(2));
        match(true, Check.list(2, Check.REST), Check.list(2, 0, 1, 3));
        match(false, Check.list(2, Check.REST), Check.list(1, 2));
        match(false, Check.list(2, 3, Check.REST), Check.list(2));
        match(true, Check.list(Check.ONE, 3, Check.REST), Check.list(0, 3));
        match(false, Check.list(Check.ONE, 3, Check.REST), Check.list(0, 2, 3));
        match(true, Check.list(1, 2, 3, Check.REST), Check.list(1, 2, 3));
        match(true, Check.list(1, 2, 3, Check.REST), Check.list(1, 2, 3, 0));
        match(false, Check.list(1, 2, 3, Check.REST), Check.list(1, 2));
    }

    private static void noFilterOrNoTopic() {
        for (int f : Check.noFilters()) {
            match(false, f, 1);
        }
        for (int t : Check.noTopics()) {
            match(false, 7, t);
        }
        match(false, 0, 0);
        match(false, Integer.MIN_VALUE, Integer.MIN_VALUE);
    }

    private static void everyPair() {
        List<int[]> lists = new ArrayList<>();
        for (int n = FROM; n < TO; n++) {
            lists.add(levels(n));
        }
        TopicBroker x = new TopicBroker();
        int calls = 0;
        for (int f = FROM; f < TO; f++) {
            int[] filter = lists.get(f - FROM);
            for (int t = FROM; t < TO; t++) {
                if (calls++ % CALLS_AN_OBJECT == 0) {
                    x = new TopicBroker();
                }
                boolean want = told(filter, lists.get(t - FROM));
                if (x.matches(f, t) != want) {
                    match(want, f, t);
                }
            }
        }
    }

    /** The levels that a number stands for; an empty list if it stands for none. */
    private static int[] levels(int number) {
        String digits = number > 0 ? Integer.toOctalString(number) : "0";
        if (digits.indexOf('0') >= 0 || digits.length() > 4) {
            return new int[0];
        }
        return digits.chars().map(digit -> digit - '1').toArray();
    }

    private static boolean told(int[] filter, int[] topic) {
        if (filter.length == 0 || topic.length == 0) {
            return false;
        }
        for (int level : topic) {
            if (level > 4) {
                return false;
            }
        }
        for (int i = 0; i < filter.length - 1; i++) {
            if (filter[i] == Check.REST) {
                return false;
            }
        }
        if (filter[filter.length - 1] != Check.REST) {
            return filter.length == topic.length && agree(filter, topic, filter.length);
        }
        int r = filter.length - 1;
        return topic.length >= r && agree(filter, topic, r);
    }

    private static boolean agree(int[] filter, int[] topic, int places) {
        for (int i = 0; i < places; i++) {
            if (filter[i] != Check.ONE && filter[i] != topic[i]) {
                return false;
            }
        }
        return true;
    }
}
