/** The edges that promises 7, 8 and 9 name. */
public final class KeptEdgeTest {
    private static final int ONE = Check.ONE;
    private static final int REST = Check.REST;
    private static final int ALL = Check.list(REST);

    public static void main(String[] args) {
        becomesTheValue();
        nothingIsPublished();
        keepWrongTopic();
        keepFull();
        keepNotFullForOneOfTheEight();
        keepNotFullWithSeven();
        keepBadArgBeforeFull();
        keepAnswers();
        noLongerKept();
        forgetWrongTopic();
        forgetNone();
        forgetBadArgBeforeNone();
        keptCounts();
        keptWrongFilter();
        Check.finish();
    }

    /** The topics with a kept value in the standing FULL. */
    private static int eighth(int i) {
        return Check.list(i / 4, i % 4);
    }

    private static void becomesTheValue() {
        Check.sentence("The kept value of topic t becomes value");
        for (int i = 0; i < 8; i++) {
            TopicBroker x = new TopicBroker();
            for (int each = 0; each < 8; each++) {
                x.keep(eighth(each), each);
            }
            x.keep(eighth(i), -77);
            x.subscribe(0, ALL, 0);
            for (int each = 0; each < 8; each++) {
                Check.due("firstTopic", x.firstTopic(0), eighth(each));
                Check.due("take", x.take(0), each == i ? -77 : each);
            }
        }
    }

    private static void nothingIsPublished() {
        Check.sentence("nothing is published");
        TopicBroker x = new TopicBroker();
        for (int c = 0; c < 4; c++) {
            x.subscribe(c, ALL, 2);
        }
        x.keep(1, 5);
        x.keep(1, 6);
        x.forget(1);
        for (int c = 0; c < 4; c++) {
            Check.due("waiting", x.waiting(c), 0);
            Check.due("lost", x.lost(c), 0);
        }
    }

    private static void refuseKeep(Standing standing, int t, int code) {
        Refused.call("keep(" + t + ", 77)", standing, x -> x.keep(t, 77), code);
    }

    private static void keepWrongTopic() {
        Check.sentence("t no topic answers BAD_ARG", "keep");
        for (Standing standing : Standing.values()) {
            for (int t : Check.noTopics()) {
                refuseKeep(standing, t, Check.BAD_ARG);
            }
        }
    }

    private static void keepFull() {
        Check.sentence("t has no kept value and 8 topics have one answers FULL");
        refuseKeep(Standing.FULL, Check.list(0), Check.FULL);
        refuseKeep(Standing.FULL, Check.list(0, 4), Check.FULL);
        refuseKeep(Standing.FULL, Check.list(1, 4), Check.FULL);
        refuseKeep(Standing.FULL, Check.list(4, 4, 4, 4), Check.FULL);
    }

    private static void keepNotFullForOneOfTheEight() {
        Check.sentence("t has no kept value and 8 topics have one answers FULL", "t has one");
        for (int i = 0; i < 8; i++) {
            TopicBroker x = Standing.FULL.make();
            Check.due("keep", x.keep(eighth(i), 77), 1);
            Check.due("kept", x.kept(ALL), 8);
            Check.due("kept, that one", x.kept(eighth(i)), 1);
        }
    }

    private static void keepNotFullWithSeven() {
        Check.sentence("t has no kept value and 8 topics have one answers FULL", "7 have one");
        TopicBroker seven = new TopicBroker();
        for (int i = 0; i < 7; i++) {
            Check.due("keep, " + i + " before", seven.keep(eighth(i), i), 0);
        }
        Check.due("the eighth", seven.keep(eighth(7), 7), 0);
        Check.due("the ninth", seven.keep(1, 8), Check.FULL);
        for (int i = 0; i < 8; i++) {
            TopicBroker x = Standing.FULL.make();
            x.forget(eighth(i));
            Check.due("there is room for one", x.keep(Check.list(3), 77), 0);
            Check.due("and for no other", x.keep(eighth(i), 78), Check.FULL);
            Check.due("kept", x.kept(ALL), 8);
        }
    }

    private static void keepBadArgBeforeFull() {
        Check.sentence("Tested in this order: t no topic answers BAD_ARG; t has no kept value and 8 topics have one answers FULL.");
        refuseKeep(Standing.FULL, 0, Check.BAD_ARG);
        refuseKeep(Standing.FULL, -1, Check.BAD_ARG);
        refuseKeep(Standing.FULL, Check.list(ONE), Check.BAD_ARG);
        refuseKeep(Standing.FULL, ALL, Check.BAD_ARG);
        refuseKeep(Standing.FULL, 4096, Check.BAD_ARG);
    }

    private static void keepAnswers() {
        Check.sentence("Otherwise 1 if it had one before, else 0.");
        TopicBroker x = new TopicBroker();
        Check.due("keep", x.keep(1, 0), 0);
        Check.due("keep over a 0", x.keep(1, 0), 1);
        Check.due("a longer topic is another one", x.keep(Check.list(0, 0), 0), 0);
        x.forget(1);
        Check.due("keep after forget", x.keep(1, 0), 0);
    }

    private static void noLongerKept() {
        Check.sentence("Topic t no longer has a kept value.");
        for (int i = 0; i < 8; i++) {
            TopicBroker x = new TopicBroker();
            for (int each = 7; each >= 0; each--) {
                x.keep(eighth(each), each);
            }
            Check.due("forget", x.forget(eighth(i)), 0);
            Check.due("kept, that one", x.kept(eighth(i)), 0);
            Check.due("kept", x.kept(ALL), 7);
            Check.due("subscribe", x.subscribe(0, ALL, 0), 7);
            for (int each = 0; each < 8; each++) {
                if (each != i) {
                    Check.due("firstTopic", x.firstTopic(0), eighth(each));
                    Check.due("take", x.take(0), each);
                }
            }
        }
    }

    private static void refuseForget(Standing standing, int t, int code) {
        Refused.call("forget(" + t + ")", standing, x -> x.forget(t), code);
    }

    private static void forgetWrongTopic() {
        Check.sentence("t no topic answers BAD_ARG", "forget");
        for (Standing standing : Standing.values()) {
            for (int t : Check.noTopics()) {
                refuseForget(standing, t, Check.BAD_ARG);
            }
        }
    }

    private static void forgetNone() {
        Check.sentence("it has none answers NONE");
        refuseForget(Standing.NEW, Check.list(0), Check.NONE);
        refuseForget(Standing.USED, Check.list(2), Check.NONE);
        refuseForget(Standing.OFFLINE, Check.list(1), Check.NONE);
        refuseForget(Standing.FULL, Check.list(0), Check.NONE);
        refuseForget(Standing.FULL, Check.list(1, 3, 0), Check.NONE);
        refuseForget(Standing.FULL, Check.list(4, 4, 4, 4), Check.NONE);
        TopicBroker x = Standing.FULL.make();
        for (int i = 0; i < 8; i++) {
            Check.due("forget", x.forget(eighth(i)), 0);
            Check.due("forget again", x.forget(eighth(i)), Check.NONE);
            Check.due("kept", x.kept(ALL), 7 - i);
        }
    }

    private static void forgetBadArgBeforeNone() {
        Check.sentence("Tested in this order: t no topic answers BAD_ARG; it has none answers NONE.");
        refuseForget(Standing.NEW, 0, Check.BAD_ARG);
        refuseForget(Standing.NEW, -1, Check.BAD_ARG);
        refuseForget(Standing.NEW, ALL, Check.BAD_ARG);
        refuseForget(Standing.NEW, Check.list(ONE), Check.BAD_ARG);
    }

    private static void keptCounts() {
        Check.sentence("How many topics with a kept value filter f matches");
        TopicBroker x = new TopicBroker();
        for (int count = 0; count <= 8; count++) {
            Check.due("kept", x.kept(ALL), count);
            Check.due("kept(ONE, ONE)", x.kept(Check.list(ONE, ONE)), count);
            Check.due("kept(0, REST)", x.kept(Check.list(0, REST)), Math.min(count, 4));
            Check.due("kept(1, REST)", x.kept(Check.list(1, REST)), Math.max(count - 4, 0));
            Check.due("kept(ONE)", x.kept(Check.list(ONE)), 0);
            x.keep(eighth(count), 0);
        }
    }

    private static void keptWrongFilter() {
        Check.sentence("BAD_ARG if f is no filter");
        for (Standing standing : Standing.values()) {
            for (int f : Check.noFilters()) {
                Refused.call("kept(" + f + ")", standing, x -> x.kept(f), Check.BAD_ARG);
            }
        }
    }
}
