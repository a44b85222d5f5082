/** The edges that promises 3, 4 and 5 name. */
public final class SubscribeEdgeTest {
    private static final int ONE = Check.ONE;
    private static final int REST = Check.REST;
    private static final int ALL = Check.list(REST);

    public static void main(String[] args) {
        subscribedAlready();
        staysWhereItIs();
        keptTopicsThatMatch();
        keptTopicsAgain();
        keptTopicsAgainInOrder();
        keptTopicsAgainOffline();
        inTheOrderOfNumbers();
        lesserOfGradeAndOne();
        asWhenPublishingOffline();
        asWhenPublishingFull();
        goesToThatClientAlone();
        otherSubscriptionsHaveNoPart();
        subscribeWrongClient();
        subscribeWrongFilter();
        subscribeWrongGrade();
        subscribeFull();
        subscribeNotFullForOneOfTheFive();
        subscribeNotFullWithFour();
        subscribeBadArgBeforeFull();
        subscribeCounts();
        unsubscribeWrongClient();
        unsubscribeWrongFilter();
        unsubscribeNone();
        unsubscribeBadArgBeforeNone();
        unsubscribeAnswersTheGrade();
        subscriptionsCounts();
        Check.finish();
    }

    private static void subscribedAlready() {
        Check.sentence("if it has a subscription to f, this gets the grade");
        for (int before = 0; before <= 2; before++) {
            for (int after = 0; after <= 2; after++) {
                TopicBroker x = new TopicBroker();
                x.subscribe(0, 1, before);
                Check.due("subscribe again", x.subscribe(0, 1, after), 0);
                Check.due("subscriptions", x.subscriptions(0), 1);
                x.publish(1, 9, 2);
                Check.due("firstGrade", x.firstGrade(0), after);
                Check.due("unsubscribe", x.unsubscribe(0, 1), after);
            }
        }
    }

    /** The place itself is not to be seen; that the others keep theirs, with their grades, is. */
    private static void staysWhereItIs() {
        Check.sentence("(and stays where it is)");
        for (int again = 0; again < 5; again++) {
            TopicBroker x = new TopicBroker();
            for (int i = 0; i < 5; i++) {
                x.subscribe(3, 1 + i, i % 3);
            }
            Check.due("subscribe again", x.subscribe(3, 1 + again, (again + 1) % 3), 0);
            Check.due("subscriptions", x.subscriptions(3), 5);
            for (int i = 0; i < 5; i++) {
                Check.due("unsubscribe", x.unsubscribe(3, 1 + i), i == again ? (i + 1) % 3 : i % 3);
            }
        }
    }

    private static void keptTopicsThatMatch() {
        Check.sentence("for every topic with a kept value that f matches");
        TopicBroker x = new TopicBroker();
        Check.due("no kept value at all", x.subscribe(0, ALL, 1), 0);
        x.keep(Check.list(0), 10);
        x.keep(Check.list(0, 1), 11);
        x.keep(Check.list(0, 1, 2), 12);
        Check.due("none that f matches", x.subscribe(1, Check.list(1, REST), 1), 0);
        Check.due("waiting", x.waiting(1), 0);
        Check.due("one that f matches", x.subscribe(1, Check.list(ONE, ONE), 1), 1);
        Check.due("waiting", x.waiting(1), 1);
        Check.due("its topic", x.firstTopic(1), Check.list(0, 1));
        Check.due("its value", x.take(1), 11);
        Check.due("all", x.subscribe(2, Check.list(0, REST), 1), 3);
        Check.due("waiting", x.waiting(2), 3);
        Check.due("client 0 has got nothing since", x.waiting(0), 0);
    }

    private static void keptTopicsAgain() {
        Check.sentence("Then, for every topic with a kept value that f matches", "also if it had the subscription");
        for (int after = 0; after <= 2; after++) {
            TopicBroker x = new TopicBroker();
            x.subscribe(0, 1, 1);
            x.keep(1, 5);
            Check.due("waiting", x.waiting(0), 0);
            Check.due("subscribe again", x.subscribe(0, 1, after), 1);
            Check.due("waiting", x.waiting(0), 1);
            Check.due("the new grade counts", x.firstGrade(0), after == 0 ? 0 : 1);
            Check.due("and again", x.subscribe(0, 1, after), 1);
            Check.due("waiting", x.waiting(0), 2);
            Check.due("subscriptions", x.subscriptions(0), 1);
        }
    }

    /** A client whose five subscriptions all match topic 1, 1; three kept values match ONE, ONE. */
    private static TopicBroker fiveAndThree() {
        TopicBroker x = new TopicBroker();
        for (int f : new int[] {Check.list(1, 1), Check.list(ONE, ONE), Check.list(1, REST), ALL, Check.list(ONE, 1)}) {
            x.subscribe(2, f, 2);
        }
        x.keep(Check.list(4, 4), 44);
        x.keep(Check.list(1, 1), 11);
        x.keep(Check.list(3, 0), 30);
        x.keep(Check.list(0), 1);
        return x;
    }

    private static void keptTopicsAgainInOrder() {
        Check.sentence("that f matches, in the order of the topics' numbers", "also if it had the subscription");
        for (int after = 0; after <= 2; after++) {
            TopicBroker x = fiveAndThree();
            Check.due("subscribe again", x.subscribe(2, Check.list(ONE, ONE), after), 3);
            Check.due("waiting", x.waiting(2), 3);
            for (int value : new int[] {11, 30, 44}) {
                Check.due("firstGrade", x.firstGrade(2), Math.min(after, 1));
                Check.due("take", x.take(2), value);
            }
            Check.due("subscriptions", x.subscriptions(2), 5);
            Check.due("unsubscribe", x.unsubscribe(2, Check.list(ONE, ONE)), after);
        }
    }

    private static void keptTopicsAgainOffline() {
        Check.sentence("goes to c, as when publishing", "also if it had the subscription");
        for (int after = 0; after <= 2; after++) {
            TopicBroker x = fiveAndThree();
            for (int i = 0; i < 10; i++) {
                x.publish(Check.list(2), i, 2);
            }
            x.connect(2, 0);
            Check.due("subscribe again, offline, room for 2", x.subscribe(2, Check.list(ONE, ONE), after), 3);
            Check.due("waiting", x.waiting(2), after == 0 ? 10 : 12);
            Check.due("lost", x.lost(2), after == 0 ? 0 : 1);
        }
    }

    private static void inTheOrderOfNumbers() {
        Check.sentence("in the order of the topics' numbers");
        int[] inOrder = {
            Check.list(0), Check.list(4), Check.list(0, 0), Check.list(4, 4), Check.list(0, 0, 0), Check.list(4, 4, 4),
            Check.list(0, 0, 0, 0), Check.list(4, 4, 4, 4)};
        for (int step : new int[] {1, 3, 5, 7}) {
            TopicBroker x = new TopicBroker();
            for (int i = 0; i < 8; i++) {
                x.keep(inOrder[i * step % 8], 1);
            }
            for (int i = 7; i >= 0; i--) {
                x.keep(inOrder[i], 100 - i);
            }
            x.forget(inOrder[3]);
            x.keep(inOrder[3], 200);
            x.subscribe(1, ALL, 2);
            for (int i = 0; i < 8; i++) {
                Check.due("firstTopic", x.firstTopic(1), inOrder[i]);
                Check.due("take", x.take(1), i == 3 ? 200 : 100 - i);
            }
        }
    }

    private static void lesserOfGradeAndOne() {
        Check.sentence("a message with the kept value and the lesser of the grade and 1 goes to c");
        for (int grade = 0; grade <= 2; grade++) {
            TopicBroker x = new TopicBroker();
            x.keep(2, -33);
            x.subscribe(3, 2, grade);
            Check.due("firstGrade for " + grade, x.firstGrade(3), grade == 0 ? 0 : 1);
            Check.due("take", x.take(3), -33);
            Check.due("the subscription has all of its grade", x.unsubscribe(3, 2), grade);
        }
    }

    private static void asWhenPublishingOffline() {
        Check.sentence("goes to c, as when publishing");
        for (int grade = 0; grade <= 2; grade++) {
            TopicBroker x = new TopicBroker();
            x.keep(1, 5);
            x.connect(0, 0);
            Check.due("subscribe, offline, with " + grade, x.subscribe(0, 1, grade), 1);
            Check.due("waiting", x.waiting(0), grade == 0 ? 0 : 1);
            Check.due("lost", x.lost(0), 0);
            Check.due("subscriptions", x.subscriptions(0), 1);
        }
    }

    private static void asWhenPublishingFull() {
        Check.sentence("a message with the kept value and the lesser of the grade and 1 goes to c, as when publishing");
        for (int room = 0; room <= 4; room++) {
            TopicBroker x = new TopicBroker();
            x.subscribe(0, 5, 2);
            for (int i = 0; i < 12 - room; i++) {
                x.publish(5, i, 2);
            }
            x.keep(3, 33);
            x.keep(1, 31);
            x.keep(2, 32);
            Check.due("subscribe with room for " + room, x.subscribe(0, Check.list(ONE), 0), 3);
            Check.due("waiting", x.waiting(0), room < 3 ? 12 : 15 - room);
            Check.due("lost", x.lost(0), room < 3 ? 3 - room : 0);
            for (int i = 0; i < 12 - room; i++) {
                Check.due("take", x.take(0), i);
            }
            for (int i = 1; i <= 3 && i <= room; i++) {
                Check.due("the first ones had room", x.take(0), 30 + i);
            }
            Check.due("subscriptions", x.subscriptions(0), 2);
        }
    }

    private static void goesToThatClientAlone() {
        Check.sentence("Client c subscribes to filter f with this grade");
        for (int c = 0; c < 4; c++) {
            TopicBroker x = new TopicBroker();
            x.keep(1, 5);
            x.subscribe(c, ALL, 1);
            for (int other = 0; other < 4; other++) {
                Check.due("waiting(" + other + ")", x.waiting(other), other == c ? 1 : 0);
                Check.due("subscriptions(" + other + ")", x.subscriptions(other), other == c ? 1 : 0);
            }
            Check.due("reached", x.reached(4), 1 << c);
        }
    }

    private static void otherSubscriptionsHaveNoPart() {
        Check.sentence("(c's other subscriptions have no part in this)");
        TopicBroker x = new TopicBroker();
        x.subscribe(0, ALL, 2);
        x.keep(1, 5);
        x.keep(2, 6);
        Check.due("subscribe", x.subscribe(0, 1, 0), 1);
        Check.due("what only the other matches is not sent", x.waiting(0), 1);
        Check.due("the other's greater grade is not taken", x.firstGrade(0), 0);
        x.take(0);
        x.connect(0, 0);
        Check.due("subscribe, offline", x.subscribe(0, 1, 0), 1);
        Check.due("the other's greater grade does not help", x.waiting(0), 0);
    }

    private static void refuseSubscribe(Standing standing, int c, int f, int grade, int code) {
        Refused.call("subscribe(" + c + ", " + f + ", " + grade + ")", standing, x -> x.subscribe(c, f, grade), code);
    }

    private static void subscribeWrongClient() {
        Check.sentence("c not 0 to 3, f no filter or grade not 0 to 2 answers BAD_ARG", "c");
        for (Standing standing : Standing.values()) {
            for (int c : Check.noClients()) {
                refuseSubscribe(standing, c, ALL, 1, Check.BAD_ARG);
            }
        }
    }

    private static void subscribeWrongFilter() {
        Check.sentence("c not 0 to 3, f no filter or grade not 0 to 2 answers BAD_ARG", "f");
        for (Standing standing : Standing.values()) {
            for (int f : Check.noFilters()) {
                refuseSubscribe(standing, 0, f, 1, Check.BAD_ARG);
                refuseSubscribe(standing, 3, f, 2, Check.BAD_ARG);
            }
        }
    }

    private static void subscribeWrongGrade() {
        Check.sentence("c not 0 to 3, f no filter or grade not 0 to 2 answers BAD_ARG", "grade");
        for (Standing standing : Standing.values()) {
            for (int grade : Check.noGrades()) {
                refuseSubscribe(standing, 0, Check.list(0), grade, Check.BAD_ARG);
                refuseSubscribe(standing, 2, ALL, grade, Check.BAD_ARG);
            }
        }
    }

    private static void subscribeFull() {
        Check.sentence("it has 5 subscriptions, none of them to f, answers FULL");
        for (int c = 0; c < 4; c++) {
            for (int grade = 0; grade <= 2; grade++) {
                refuseSubscribe(Standing.FULL, c, ALL, grade, Check.FULL);
                refuseSubscribe(Standing.FULL, c, Check.list(0, 0), grade, Check.FULL);
                refuseSubscribe(Standing.FULL, c, Check.list(4, 4, 4), grade, Check.FULL);
            }
        }
    }

    private static void subscribeNotFullForOneOfTheFive() {
        Check.sentence("it has 5 subscriptions, none of them to f, answers FULL", "one of them is");
        int[] matched = {0, 4, 4, 8, 0};
        for (int c = 0; c < 4; c++) {
            for (int i = 0; i < 5; i++) {
                TopicBroker x = Standing.FULL.make();
                Check.due("subscribe", x.subscribe(c, Standing.FIVE[i], 1), matched[i]);
                Check.due("subscriptions", x.subscriptions(c), 5);
                Check.due("unsubscribe", x.unsubscribe(c, Standing.FIVE[i]), 1);
            }
        }
    }

    private static void subscribeNotFullWithFour() {
        Check.sentence("it has 5 subscriptions, none of them to f, answers FULL", "4 after one ended");
        for (int c = 0; c < 4; c++) {
            for (int i = 0; i < 5; i++) {
                TopicBroker x = Standing.FULL.make();
                x.unsubscribe(c, Standing.FIVE[i]);
                Check.due("subscribe", x.subscribe(c, ALL, 2), 8);
                Check.due("subscriptions", x.subscriptions(c), 5);
                Check.due("and then it is full", x.subscribe(c, Check.list(2), 2), Check.FULL);
                Check.due("unsubscribe", x.unsubscribe(c, ALL), 2);
            }
        }
    }

    private static void subscribeBadArgBeforeFull() {
        Check.sentence("Tested in this order: c not 0 to 3, f no filter or grade not 0 to 2 answers BAD_ARG; it has 5 subscriptions");
        for (int c = 0; c < 4; c++) {
            refuseSubscribe(Standing.FULL, c, 0, 1, Check.BAD_ARG);
            refuseSubscribe(Standing.FULL, c, Check.list(REST, 0), 1, Check.BAD_ARG);
            refuseSubscribe(Standing.FULL, c, ALL, 3, Check.BAD_ARG);
            refuseSubscribe(Standing.FULL, c, ALL, -1, Check.BAD_ARG);
            refuseSubscribe(Standing.FULL, c, 0, 3, Check.BAD_ARG);
        }
    }

    private static void subscribeCounts() {
        Check.sentence("Otherwise the number of topics with a kept value that f matches.");
        TopicBroker x = new TopicBroker();
        for (int count = 0; count <= 8; count++) {
            Check.due("subscribe with " + count + " kept", x.subscribe(0, ALL, 2), count);
            Check.due("none that f matches", x.subscribe(1, Check.list(4, 4, 4, 4), 2), 0);
            Check.due("a ninth is refused", x.keep(Check.list(count / 4, count % 4), 1), count < 8 ? 0 : Check.FULL);
        }
    }

    private static void refuseUnsubscribe(Standing standing, int c, int f, int code) {
        Refused.call("unsubscribe(" + c + ", " + f + ")", standing, x -> x.unsubscribe(c, f), code);
    }

    private static void unsubscribeWrongClient() {
        Check.sentence("c not 0 to 3 or f no filter answers BAD_ARG", "c");
        for (Standing standing : Standing.values()) {
            for (int c : Check.noClients()) {
                refuseUnsubscribe(standing, c, ALL, Check.BAD_ARG);
                refuseUnsubscribe(standing, c, Check.list(0), Check.BAD_ARG);
            }
        }
    }

    private static void unsubscribeWrongFilter() {
        Check.sentence("c not 0 to 3 or f no filter answers BAD_ARG", "f");
        for (Standing standing : Standing.values()) {
            for (int f : Check.noFilters()) {
                refuseUnsubscribe(standing, 0, f, Check.BAD_ARG);
                refuseUnsubscribe(standing, 3, f, Check.BAD_ARG);
            }
        }
    }

    private static void unsubscribeNone() {
        Check.sentence("there is none answers NONE");
        for (int c = 0; c < 4; c++) {
            refuseUnsubscribe(Standing.NEW, c, ALL, Check.NONE);
            refuseUnsubscribe(Standing.FULL, c, ALL, Check.NONE);
            refuseUnsubscribe(Standing.FULL, c, Check.list(0, 0), Check.NONE);
            refuseUnsubscribe(Standing.OFFLINE, c, Check.list(ONE, REST), Check.NONE);
        }
        refuseUnsubscribe(Standing.USED, 0, ALL, Check.NONE);
        refuseUnsubscribe(Standing.USED, 2, Check.list(0), Check.NONE);
        for (int i = 0; i < 5; i++) {
            TopicBroker x = Standing.FULL.make();
            x.unsubscribe(1, Standing.FIVE[i]);
            Check.due("unsubscribe what has ended", x.unsubscribe(1, Standing.FIVE[i]), Check.NONE);
            Check.due("subscriptions", x.subscriptions(1), 4);
        }
    }

    private static void unsubscribeBadArgBeforeNone() {
        Check.sentence("Tested in this order: c not 0 to 3 or f no filter answers BAD_ARG; there is none answers NONE");
        refuseUnsubscribe(Standing.NEW, 0, 0, Check.BAD_ARG);
        refuseUnsubscribe(Standing.NEW, 0, 8, Check.BAD_ARG);
        refuseUnsubscribe(Standing.NEW, 4, 1, Check.BAD_ARG);
        refuseUnsubscribe(Standing.NEW, -1, 0, Check.BAD_ARG);
    }

    private static void unsubscribeAnswersTheGrade() {
        Check.sentence("Otherwise its grade.");
        for (int c = 0; c < 4; c++) {
            for (int i = 0; i < 5; i++) {
                TopicBroker x = Standing.FULL.make();
                Check.due("unsubscribe", x.unsubscribe(c, Standing.FIVE[i]), (c + i) % 3);
                Check.due("subscriptions", x.subscriptions(c), 4);
                Check.due("waiting", x.waiting(c), 12);
            }
        }
    }

    private static void subscriptionsCounts() {
        Check.sentence("The number of subscriptions of client c; BAD_ARG if c is not 0 to 3.");
        TopicBroker x = new TopicBroker();
        for (int c = 0; c < 4; c++) {
            for (int count = 0; count < 5; count++) {
                Check.due("subscriptions", x.subscriptions(c), count);
                x.subscribe(c, 1 + count, 0);
            }
            for (int count = 5; count > 0; count--) {
                Check.due("subscriptions", x.subscriptions(c), count);
                x.unsubscribe(c, count);
            }
            Check.due("subscriptions", x.subscriptions(c), 0);
        }
        Refused.client("subscriptions", TopicBroker::subscriptions, Check.BAD_ARG);
    }
}
