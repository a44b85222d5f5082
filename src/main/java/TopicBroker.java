public final class TopicBroker {
    public static final int BAD_ARG = -1;
    public static final int FULL = -2;
    public static final int NONE = -4;

    private static final int CLIENTS = 4;
    private static final int MAX_SUBSCRIPTIONS = 5;
    private static final int MAX_QUEUE = 12;
    private static final int MAX_KEPT = 8;
    private static final int MAX_GRADE = 2;
    private static final int KEPT_GRADE = 1;

    private static final int SUBSCRIPTION_CELLS = CLIENTS * MAX_SUBSCRIPTIONS;
    private static final int QUEUE_CELLS = CLIENTS * MAX_QUEUE;

    // A list of levels is a number in base 8 whose digits are level + 1,
    // so a digit 0 stands for no level at all.
    private static final int DIGIT_BITS = 3;
    private static final int DIGIT_MASK = 7;
    private static final int NO_LEVEL = 0;
    private static final int LAST_TOPIC_DIGIT = 5;
    private static final int ONE_DIGIT = 6;
    private static final int REST_DIGIT = 7;
    private static final int MAX_NUMBER = 4095;

    private static final int NOT_FOUND = -1;

    // Client c has the cells from c * MAX_SUBSCRIPTIONS on.
    private final int[] subscriptionFilter = new int[SUBSCRIPTION_CELLS];
    private final int[] subscriptionGrade = new int[SUBSCRIPTION_CELLS];
    private final int[] subscriptionCount = new int[CLIENTS];

    // Client c has the cells from c * MAX_QUEUE on, the first message first.
    private final int[] queueTopic = new int[QUEUE_CELLS];
    private final int[] queueValue = new int[QUEUE_CELLS];
    private final int[] queueGrade = new int[QUEUE_CELLS];
    private final int[] queueCount = new int[CLIENTS];

    private final boolean[] online = new boolean[CLIENTS];
    private final int[] lostCount = new int[CLIENTS];

    // In the order of the topics' numbers, because subscribe sends them so.
    private final int[] keptTopic = new int[MAX_KEPT];
    private final int[] keptValue = new int[MAX_KEPT];
    private int keptCount;

    public TopicBroker() {
        for (int c = 0; c < CLIENTS; c++) {
            online[c] = true;
        }
    }

    public boolean matches(int f, int t) {
        return isFilter(f) && isTopic(t) && covers(f, t);
    }

    public int subscribe(int c, int f, int grade) {
        if (!isClient(c) || !isFilter(f) || !isGrade(grade)) {
            return BAD_ARG;
        }
        int cell = findSubscription(c, f);
        if (cell == NOT_FOUND) {
            if (subscriptionCount[c] >= MAX_SUBSCRIPTIONS) {
                return FULL;
            }
            cell = c * MAX_SUBSCRIPTIONS + subscriptionCount[c];
            subscriptionFilter[cell] = f;
            subscriptionCount[c]++;
        }
        subscriptionGrade[cell] = grade;
        return sendKept(c, f, grade);
    }

    public int unsubscribe(int c, int f) {
        if (!isClient(c) || !isFilter(f)) {
            return BAD_ARG;
        }
        int cell = findSubscription(c, f);
        if (cell == NOT_FOUND) {
            return NONE;
        }
        int grade = subscriptionGrade[cell];
        removeSubscription(c, cell);
        return grade;
    }

    public int subscriptions(int c) {
        return isClient(c) ? subscriptionCount[c] : BAD_ARG;
    }

    public int publish(int t, int value, int grade) {
        if (!isTopic(t) || !isGrade(grade)) {
            return BAD_ARG;
        }
        int went = 0;
        for (int c = 0; c < CLIENTS; c++) {
            int best = bestGrade(c, t);
            if (best != NOT_FOUND) {
                int sent = lesser(best, grade);
                if (deliver(c, t, value, sent)) {
                    went++;
                }
            }
        }
        return went;
    }

    public int keep(int t, int value) {
        if (!isTopic(t)) {
            return BAD_ARG;
        }
        int at = findKept(t);
        if (at != NOT_FOUND) {
            keptValue[at] = value;
            return 1;
        }
        if (keptCount >= MAX_KEPT) {
            return FULL;
        }
        insertKept(t, value);
        return 0;
    }

    public int forget(int t) {
        if (!isTopic(t)) {
            return BAD_ARG;
        }
        int at = findKept(t);
        if (at == NOT_FOUND) {
            return NONE;
        }
        removeKept(at);
        return 0;
    }

    public int kept(int f) {
        if (!isFilter(f)) {
            return BAD_ARG;
        }
        int count = 0;
        for (int i = 0; i < keptCount; i++) {
            if (covers(f, keptTopic[i])) {
                count++;
            }
        }
        return count;
    }

    public int connect(int c, int on) {
        if (!isClient(c)) {
            return BAD_ARG;
        }
        int before = online[c] ? 1 : 0;
        online[c] = on != 0;
        return before;
    }

    public int waiting(int c) {
        return isClient(c) ? queueCount[c] : BAD_ARG;
    }

    public int firstTopic(int c) {
        if (!isClient(c)) {
            return BAD_ARG;
        }
        return queueCount[c] > 0 ? queueTopic[c * MAX_QUEUE] : NONE;
    }

    public int firstGrade(int c) {
        if (!isClient(c)) {
            return BAD_ARG;
        }
        return queueCount[c] > 0 ? queueGrade[c * MAX_QUEUE] : NONE;
    }

    public int take(int c) {
        if (!isClient(c) || !online[c] || queueCount[c] == 0) {
            return 0;
        }
        int value = queueValue[c * MAX_QUEUE];
        removeFirst(c);
        return value;
    }

    public int lost(int c) {
        return isClient(c) ? lostCount[c] : BAD_ARG;
    }

    public int reached(int t) {
        if (!isTopic(t)) {
            return BAD_ARG;
        }
        int set = 0;
        for (int c = 0; c < CLIENTS; c++) {
            if (bestGrade(c, t) != NOT_FOUND) {
                set |= 1 << c;
            }
        }
        return set;
    }

    public int breadth(int c) {
        if (!isClient(c)) {
            return BAD_ARG;
        }
        int count = 0;
        for (int t = 1; t <= MAX_NUMBER; t++) {
            if (isTopic(t) && bestGrade(c, t) != NOT_FOUND) {
                count++;
            }
        }
        return count;
    }

    private static boolean isClient(int c) {
        return c >= 0 && c < CLIENTS;
    }

    private static boolean isGrade(int grade) {
        return grade >= 0 && grade <= MAX_GRADE;
    }

    private static boolean isTopic(int n) {
        if (n < 1 || n > MAX_NUMBER) {
            return false;
        }
        int levels = levelCount(n);
        for (int place = 0; place < levels; place++) {
            int digit = digitAt(n, levels, place);
            if (digit == NO_LEVEL || digit > LAST_TOPIC_DIGIT) {
                return false;
            }
        }
        return true;
    }

    private static boolean isFilter(int n) {
        if (n < 1 || n > MAX_NUMBER) {
            return false;
        }
        int levels = levelCount(n);
        for (int place = 0; place < levels; place++) {
            int digit = digitAt(n, levels, place);
            if (digit == NO_LEVEL) {
                return false;
            }
            if (digit == REST_DIGIT && place < levels - 1) {
                return false;
            }
        }
        return true;
    }

    /** Of a number from 1 to MAX_NUMBER. */
    private static int levelCount(int n) {
        if (n < 8) {
            return 1;
        }
        if (n < 64) {
            return 2;
        }
        return n < 512 ? 3 : 4;
    }

    /** Place 0 is the first level, which is the highest digit. */
    private static int digitAt(int n, int levels, int place) {
        return (n >> (DIGIT_BITS * (levels - 1 - place))) & DIGIT_MASK;
    }

    /** Whether f, known to be a filter, matches t, known to be a topic. */
    private static boolean covers(int f, int t) {
        int filterLevels = levelCount(f);
        int topicLevels = levelCount(t);
        boolean hasRest = (f & DIGIT_MASK) == REST_DIGIT;
        int compared = hasRest ? filterLevels - 1 : filterLevels;
        if (topicLevels < compared || (!hasRest && topicLevels > compared)) {
            return false;
        }
        for (int place = 0; place < compared; place++) {
            int wanted = digitAt(f, filterLevels, place);
            if (wanted != ONE_DIGIT && wanted != digitAt(t, topicLevels, place)) {
                return false;
            }
        }
        return true;
    }

    private static int lesser(int a, int b) {
        return a < b ? a : b;
    }

    /** The cell of client c's subscription to exactly f, or NOT_FOUND. */
    private int findSubscription(int c, int f) {
        int start = c * MAX_SUBSCRIPTIONS;
        int end = start + subscriptionCount[c];
        for (int cell = start; cell < end; cell++) {
            if (subscriptionFilter[cell] == f) {
                return cell;
            }
        }
        return NOT_FOUND;
    }

    private void removeSubscription(int c, int cell) {
        int last = c * MAX_SUBSCRIPTIONS + subscriptionCount[c] - 1;
        for (int i = cell; i < last; i++) {
            subscriptionFilter[i] = subscriptionFilter[i + 1];
            subscriptionGrade[i] = subscriptionGrade[i + 1];
        }
        subscriptionCount[c]--;
    }

    /** The greatest grade of client c's subscriptions that match t, or NOT_FOUND. */
    private int bestGrade(int c, int t) {
        int start = c * MAX_SUBSCRIPTIONS;
        int end = start + subscriptionCount[c];
        int best = NOT_FOUND;
        for (int cell = start; cell < end; cell++) {
            if (subscriptionGrade[cell] > best && covers(subscriptionFilter[cell], t)) {
                best = subscriptionGrade[cell];
            }
        }
        return best;
    }

    /** Answers how many kept topics f matches, also those whose message did not go. */
    private int sendKept(int c, int f, int grade) {
        int sent = lesser(grade, KEPT_GRADE);
        int count = 0;
        for (int i = 0; i < keptCount; i++) {
            if (covers(f, keptTopic[i])) {
                deliver(c, keptTopic[i], keptValue[i], sent);
                count++;
            }
        }
        return count;
    }

    /** Answers whether the message went into client c's queue. */
    private boolean deliver(int c, int t, int value, int grade) {
        // Before the room is looked at: what an offline client is spared is not lost.
        if (!online[c] && grade == 0) {
            return false;
        }
        if (queueCount[c] >= MAX_QUEUE) {
            lostCount[c]++;
            return false;
        }
        int cell = c * MAX_QUEUE + queueCount[c];
        queueTopic[cell] = t;
        queueValue[cell] = value;
        queueGrade[cell] = grade;
        queueCount[c]++;
        return true;
    }

    private void removeFirst(int c) {
        int start = c * MAX_QUEUE;
        int last = start + queueCount[c] - 1;
        for (int i = start; i < last; i++) {
            queueTopic[i] = queueTopic[i + 1];
            queueValue[i] = queueValue[i + 1];
            queueGrade[i] = queueGrade[i + 1];
        }
        queueCount[c]--;
    }

    private int findKept(int t) {
        for (int i = 0; i < keptCount; i++) {
            if (keptTopic[i] == t) {
                return i;
            }
        }
        return NOT_FOUND;
    }

    /** Only called while there is room and t has no kept value. */
    private void insertKept(int t, int value) {
        int at = keptCount;
        for (int i = keptCount; i > 0 && keptTopic[i - 1] > t; i--) {
            keptTopic[i] = keptTopic[i - 1];
            keptValue[i] = keptValue[i - 1];
            at = i - 1;
        }
        keptTopic[at] = t;
        keptValue[at] = value;
        keptCount++;
    }

    private void removeKept(int at) {
        for (int i = at; i < keptCount - 1; i++) {
            keptTopic[i] = keptTopic[i + 1];
            keptValue[i] = keptValue[i + 1];
        }
        keptCount--;
    }
}
