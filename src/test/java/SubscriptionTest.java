/** Promises 3, 4 and 5. */
public final class SubscriptionTest {
    private static final int ALL = Check.list(Check.REST);

    public static void main(String[] args) {
        subscribeAndUnsubscribe();
        subscribingAgainChangesTheGrade();
        atMostFive();
        unsubscribingLeavesTheOthers();
        sendsKeptInOrderOfNumbers();
        keptGradeIsAtMostOne();
        otherSubscriptionsHaveNoPart();
        subscribingAgainSendsKeptAgain();
        keptToOfflineClient();
        keptToFullQueue();
        wrongInputs();
        badArgBeforeFullAndNone();
        Check.finish();
    }

    private static void subscribeAndUnsubscribe() {
        TopicBroker x = new TopicBroker();
        for (int c = 0; c < 4; c++) {
            for (int grade = 0; grade <= 2; grade++) {
                Check.due("subscribe", x.subscribe(c, 1 + grade, grade), 0);
                Check.due("subscriptions", x.subscriptions(c), 1 + grade);
            }
        }
        for (int c = 0; c < 4; c++) {
            for (int grade = 0; grade <= 2; grade++) {
                Check.due("unsubscribe", x.unsubscribe(c, 1 + grade), grade);
                Check.due("unsubscribe again", x.unsubscribe(c, 1 + grade), Check.NONE);
                Check.due("subscriptions", x.subscriptions(c), 2 - grade);
            }
        }
    }

    private static void subscribingAgainChangesTheGrade() {
        TopicBroker x = new TopicBroker();
        x.subscribe(1, 2, 2);
        Check.due("subscribe again", x.subscribe(1, 2, 0), 0);
        Check.due("subscriptions", x.subscriptions(1), 1);
        x.publish(2, 9, 2);
        Check.due("firstGrade", x.firstGrade(1), 0);
        Check.due("unsubscribe", x.unsubscribe(1, 2), 0);
        Check.due("unsubscribe for another client", x.unsubscribe(2, 2), Check.NONE);
    }

    private static void atMostFive() {
        TopicBroker x = new TopicBroker();
        x.keep(3, 77);
        for (int f = 1; f <= 5; f++) {
            x.subscribe(0, Check.list(f - 1, Check.ONE), 0);
        }
        Check.due("a sixth", x.subscribe(0, ALL, 2), Check.FULL);
        Check.due("subscriptions", x.subscriptions(0), 5);
        Check.due("nothing is sent", x.waiting(0), 0);
        Check.due("nothing is subscribed", x.reached(3), 0);
        Check.due("one of the five again", x.subscribe(0, Check.list(4, Check.ONE), 2), 0);
        Check.due("subscriptions", x.subscriptions(0), 5);
        Check.due("another client", x.subscribe(1, ALL, 2), 1);
        Check.due("unsubscribe", x.unsubscribe(0, Check.list(0, Check.ONE)), 0);
        Check.due("there is room again", x.subscribe(0, ALL, 2), 1);
        Check.due("its grade", x.unsubscribe(0, Check.list(4, Check.ONE)), 2);
    }

    private static void unsubscribingLeavesTheOthers() {
        for (int c = 0; c < 4; c++) {
            for (int gone = 1; gone <= 5; gone++) {
                unsubscribingLeavesTheOthers(c, gone);
            }
        }
    }

    private static void unsubscribingLeavesTheOthers(int c, int gone) {
        TopicBroker x = new TopicBroker();
        for (int each = 0; each < 4; each++) {
            for (int f = 1; f <= 5; f++) {
                x.subscribe(each, f, f % 3);
            }
        }
        Check.due("unsubscribe", x.unsubscribe(c, gone), gone % 3);
        Check.due("reached", x.reached(gone), 15 - (1 << c));
        for (int each = 0; each < 4; each++) {
            for (int f = 1; f <= 5; f++) {
                int want = each == c && f == gone ? Check.NONE : f % 3;
                Check.due("unsubscribe each", x.unsubscribe(each, f), want);
            }
        }
    }

    private static void sendsKeptInOrderOfNumbers() {
        int[] sorted = {1, 5, 011, 055, 0111, 0555, 01111, 05555};
        int[] made = {5, 2, 7, 0, 6, 1, 4, 3};
        TopicBroker x = new TopicBroker();
        for (int i : made) {
            x.keep(sorted[i], 100 + i);
        }
        Check.due("subscribe", x.subscribe(2, ALL, 2), 8);
        Check.due("waiting", x.waiting(2), 8);
        for (int i = 0; i < sorted.length; i++) {
            Check.due("firstTopic", x.firstTopic(2), sorted[i]);
            Check.due("firstGrade", x.firstGrade(2), 1);
            Check.due("take", x.take(2), 100 + i);
        }
        Check.due("only where it matches", x.subscribe(3, Check.list(0, Check.REST), 1), 4);
        Check.due("waiting", x.waiting(3), 4);
        Check.due("firstTopic", x.firstTopic(3), 1);
        Check.due("the others get nothing", x.waiting(0) + x.waiting(1) + x.waiting(2), 0);
    }

    private static void keptGradeIsAtMostOne() {
        for (int grade = 0; grade <= 2; grade++) {
            TopicBroker x = new TopicBroker();
            x.keep(1, 5);
            x.subscribe(0, 1, grade);
            Check.due("firstGrade", x.firstGrade(0), grade == 0 ? 0 : 1);
        }
    }

    private static void otherSubscriptionsHaveNoPart() {
        TopicBroker x = new TopicBroker();
        x.subscribe(0, ALL, 2);
        x.keep(1, 5);
        x.keep(2, 6);
        Check.due("subscribe", x.subscribe(0, 1, 0), 1);
        Check.due("waiting", x.waiting(0), 1);
        Check.due("firstGrade", x.firstGrade(0), 0);
    }

    private static void subscribingAgainSendsKeptAgain() {
        TopicBroker x = new TopicBroker();
        x.keep(1, 5);
        x.subscribe(0, 1, 0);
        Check.due("subscribe again", x.subscribe(0, 1, 2), 1);
        Check.due("waiting", x.waiting(0), 2);
        x.take(0);
        Check.due("the new grade counts", x.firstGrade(0), 1);
    }

    private static void keptToOfflineClient() {
        TopicBroker x = new TopicBroker();
        x.keep(1, 5);
        x.connect(0, 0);
        Check.due("subscribe with 0", x.subscribe(0, 1, 0), 1);
        Check.due("waiting", x.waiting(0), 0);
        Check.due("subscribe with 1", x.subscribe(0, 1, 1), 1);
        Check.due("waiting", x.waiting(0), 1);
        Check.due("lost", x.lost(0), 0);
    }

    private static void keptToFullQueue() {
        TopicBroker x = new TopicBroker();
        for (int t = 1; t <= 3; t++) {
            x.keep(t, t);
        }
        x.subscribe(0, 5, 2);
        for (int i = 0; i < 11; i++) {
            x.publish(5, i, 1);
        }
        Check.due("subscribe", x.subscribe(0, ALL, 1), 3);
        Check.due("waiting", x.waiting(0), 12);
        Check.due("lost", x.lost(0), 2);
    }

    private static void wrongInputs() {
        TopicBroker x = new TopicBroker();
        x.keep(1, 5);
        for (int c : Check.noClients()) {
            Check.due("subscribe c " + c, x.subscribe(c, 1, 0), Check.BAD_ARG);
            Check.due("unsubscribe c " + c, x.unsubscribe(c, 1), Check.BAD_ARG);
            Check.due("subscriptions c " + c, x.subscriptions(c), Check.BAD_ARG);
        }
        for (int f : Check.noFilters()) {
            Check.due("subscribe f " + f, x.subscribe(0, f, 0), Check.BAD_ARG);
            Check.due("unsubscribe f " + f, x.unsubscribe(0, f), Check.BAD_ARG);
        }
        for (int grade : Check.noGrades()) {
            Check.due("subscribe grade " + grade, x.subscribe(0, 1, grade), Check.BAD_ARG);
        }
        for (int c = 0; c < 4; c++) {
            Check.due("subscriptions", x.subscriptions(c), 0);
            Check.due("waiting", x.waiting(c), 0);
        }
        x.subscribe(0, 1, 1);
        x.subscribe(0, 1, 3);
        Check.due("a refused grade is not taken", x.unsubscribe(0, 1), 1);
    }

    private static void badArgBeforeFullAndNone() {
        TopicBroker x = new TopicBroker();
        for (int f = 1; f <= 5; f++) {
            x.subscribe(0, f, 0);
        }
        Check.due("subscribe f", x.subscribe(0, 0, 0), Check.BAD_ARG);
        Check.due("subscribe grade", x.subscribe(0, 6, 3), Check.BAD_ARG);
        Check.due("subscribe", x.subscribe(0, 6, 0), Check.FULL);
        Check.due("unsubscribe f", x.unsubscribe(0, 8), Check.BAD_ARG);
        Check.due("unsubscribe", x.unsubscribe(0, 6), Check.NONE);
    }
}
