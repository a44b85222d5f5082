/** The edges of publishing that "Terms" and promise 6 name. */
public final class PublishEdgeTest {
    private static final int ONE = Check.ONE;
    private static final int ALL = Check.list(Check.REST);

    public static void main(String[] args) {
        atLeastOneSubscription();
        greatestGradeOfThese();
        lesserOfBoth();
        offlineAndZero();
        twelveMessages();
        lostForThatClientAlone();
        wrongTopic();
        wrongGrade();
        toHowManyClients();
        Check.finish();
    }

    private static void atLeastOneSubscription() {
        Check.sentence("for each client with at least one subscription whose filter matches");
        int[] filters = {Check.list(1, 2), Check.list(1, ONE), Check.list(ONE, 2), Check.list(1, Check.REST), ALL};
        for (int count = 0; count <= 5; count++) {
            TopicBroker x = new TopicBroker();
            x.subscribe(1, Check.list(1), 2);
            x.subscribe(1, Check.list(1, 2, ONE), 2);
            for (int i = 0; i < count; i++) {
                x.subscribe(0, filters[i], 2);
            }
            int went = count == 0 ? 0 : 1;
            Check.due("publish to " + count + " subscriptions", x.publish(Check.list(1, 2), 9, 2), went);
            Check.due("waiting, once alone", x.waiting(0), went);
            Check.due("waiting where none matches", x.waiting(1), 0);
            Check.due("waiting without any", x.waiting(2), 0);
        }
    }

    private static void greatestGradeOfThese() {
        Check.sentence("with s the greatest grade of these");
        int[] filters = {Check.list(1), Check.list(ONE), ALL, Check.list(1, Check.REST)};
        for (int place = 0; place < filters.length; place++) {
            for (int s = 1; s <= 2; s++) {
                TopicBroker x = new TopicBroker();
                for (int i = 0; i < filters.length; i++) {
                    x.subscribe(2, filters[i], i == place ? s : s - 1);
                }
                x.publish(Check.list(1), 9, 2);
                Check.due("firstGrade", x.firstGrade(2), s);
            }
        }
        TopicBroker x = new TopicBroker();
        x.subscribe(0, Check.list(0), 0);
        x.subscribe(0, Check.list(1), 2);
        x.publish(Check.list(0), 9, 2);
        Check.due("a greater one that does not match has no part", x.firstGrade(0), 0);
        x.subscribe(1, Check.list(0), 1);
        x.publish(Check.list(0), 9, 2);
        x.take(0);
        Check.due("nor has another client's", x.firstGrade(0), 0);
    }

    private static void lesserOfBoth() {
        Check.sentence("the message goes to the client with the lesser of s and the message's grade");
        for (int s = 0; s <= 2; s++) {
            for (int grade = 0; grade <= 2; grade++) {
                TopicBroker x = new TopicBroker();
                x.subscribe(3, 1, s);
                Check.due("publish", x.publish(1, 9, grade), 1);
                Check.due("firstGrade", x.firstGrade(3), Math.min(s, grade));
                Check.due("firstTopic", x.firstTopic(3), 1);
                Check.due("take", x.take(3), 9);
            }
        }
    }

    private static void offlineAndZero() {
        Check.sentence("unless the client is not online and that is 0");
        for (int s = 0; s <= 2; s++) {
            for (int grade = 0; grade <= 2; grade++) {
                for (int on = 0; on <= 1; on++) {
                    TopicBroker x = new TopicBroker();
                    x.subscribe(0, 1, s);
                    x.connect(0, on);
                    int went = on == 1 || Math.min(s, grade) > 0 ? 1 : 0;
                    Check.due("publish", x.publish(1, 9, grade), went);
                    Check.due("waiting", x.waiting(0), went);
                    Check.due("lost", x.lost(0), 0);
                }
            }
        }
    }

    private static void twelveMessages() {
        Check.sentence("or its queue has 12 messages");
        for (int before = 0; before <= 13; before++) {
            for (int grade = 0; grade <= 2; grade++) {
                TopicBroker x = new TopicBroker();
                x.subscribe(0, 1, 2);
                for (int i = 0; i < before; i++) {
                    x.publish(1, i, 2);
                }
                Check.due("publish after " + before, x.publish(1, 99, grade), before < 12 ? 1 : 0);
                Check.due("waiting", x.waiting(0), before < 12 ? before + 1 : 12);
                Check.due("lost", x.lost(0), before < 12 ? 0 : before - 11);
                Check.due("the first is still the first", x.take(0), before == 0 ? 99 : 0);
                Check.due("there is room for one", x.publish(1, 100, grade), 1);
            }
        }
    }

    private static void lostForThatClientAlone() {
        Check.sentence("(then, for this client, the message is LOST and counted)");
        for (int full = 0; full < 4; full++) {
            TopicBroker x = new TopicBroker();
            for (int c = 0; c < 4; c++) {
                x.subscribe(c, 1, 2);
            }
            x.subscribe(full, 2, 2);
            for (int i = 0; i < 12; i++) {
                x.publish(2, i, 2);
            }
            Check.due("publish, one is full", x.publish(1, 9, 2), 3);
            for (int c = 0; c < 4; c++) {
                Check.due("lost", x.lost(c), c == full ? 1 : 0);
                Check.due("waiting", x.waiting(c), c == full ? 12 : 1);
            }
        }
    }

    private static void refusePublish(Standing standing, int t, int grade) {
        Refused.call("publish(" + t + ", 9, " + grade + ")", standing, x -> x.publish(t, 9, grade), Check.BAD_ARG);
    }

    private static void wrongTopic() {
        Check.sentence("BAD_ARG if t is no topic or grade not 0 to 2.", "t");
        for (Standing standing : Standing.values()) {
            for (int t : Check.noTopics()) {
                refusePublish(standing, t, 2);
            }
        }
    }

    private static void wrongGrade() {
        Check.sentence("BAD_ARG if t is no topic or grade not 0 to 2.", "grade");
        for (Standing standing : Standing.values()) {
            for (int grade : Check.noGrades()) {
                refusePublish(standing, Check.list(0), grade);
                refusePublish(standing, Check.list(2, 2), grade);
                refusePublish(standing, 0, grade);
            }
        }
    }

    private static void toHowManyClients() {
        Check.sentence("Otherwise to how many clients the message went.");
        for (int set = 0; set < 16; set++) {
            TopicBroker x = new TopicBroker();
            for (int c = 0; c < 4; c++) {
                x.subscribe(c, (set >> c & 1) == 1 ? 1 : 2, 0);
            }
            Check.due("publish to the set " + set, x.publish(1, 9, 2), Integer.bitCount(set));
            for (int c = 0; c < 4; c++) {
                x.connect(c, set >> c & 1);
                x.subscribe(c, 3, 0);
            }
            Check.due("not those spared", x.publish(3, 9, 2), Integer.bitCount(set));
        }
    }
}
