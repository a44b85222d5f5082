/** What the tests share: comparing answers, and writing lists of levels. */
final class Check {
    static final int ONE = 5;
    static final int REST = 6;
    static final int BAD_ARG = -1;
    static final int FULL = -2;
    static final int NONE = -4;

    private static int compared = 0;
    private static int wrong = 0;
    private static String sentence = "";
    private static int comparedBefore = 0;

    private Check() {
    }

    /** The document's words that the answers from here on are about. */
    static void sentence(String words) {
        sentenceWasLookedAt();
        sentence = words;
        comparedBefore = compared;
    }

    /** One part of a sentence that has a test for each of its parts. */
    static void sentence(String words, String part) {
        sentence(words + " (" + part + ")");
    }

    private static void sentenceWasLookedAt() {
        if (!sentence.isEmpty() && compared == comparedBefore) {
            wrong++;
            System.out.println("[" + sentence + "] nothing was compared");
        }
    }

    static void due(String call, long got, long want) {
        compared++;
        if (got != want) {
            wrong(call + " answered " + got + ", due is " + want);
        }
    }

    static void same(String call, String got, String want) {
        compared++;
        if (!got.equals(want)) {
            wrong(call + "\n  shows   " + got + "\n  due is  " + want);
        }
    }

    private static void wrong(String what) {
        wrong++;
        System.out.println((sentence.isEmpty() ? "" : "[" + sentence + "] ") + what);
    }

    static void due(String call, boolean got, boolean want) {
        due(call, got ? 1L : 0L, want ? 1L : 0L);
    }

    /** The number that stands for a list of levels. */
    static int list(int... levels) {
        int number = 0;
        for (int level : levels) {
            number = number * 8 + level + 1;
        }
        return number;
    }

    /** Outside of 0 to 3: the nearest, the farthest, and some that a narrowing or a product would wrap into it. */
    static int[] noClients() {
        return new int[] {
            -1, 4, -4, 5, Integer.MIN_VALUE, Integer.MAX_VALUE,
            256, 1 << 16, 1 << 28, 1 << 30, Integer.MIN_VALUE + 3};
    }

    static int[] noGrades() {
        return new int[] {
            -1, 3, -2, 4, Integer.MIN_VALUE, Integer.MAX_VALUE, 256, (1 << 16) + 1, Integer.MIN_VALUE + 2};
    }

    /** Numbers that are no filter, and so no topic either. */
    static int[] noFilters() {
        return new int[] {
            0, -1, -7, -8, Integer.MIN_VALUE, Integer.MAX_VALUE,
            8, 64, 512, 4096, 0101, 01011, 01101, 01110,
            list(REST, 0), list(REST, REST), list(REST, ONE), list(0, REST, 0), list(0, 0, REST, REST),
            list(0, 0, 0, 0, 0), list(0, 0, 0, 0, REST), list(REST, REST, REST, REST),
            1 + (1 << 12), 7 + (1 << 15), 1 + (1 << 16), 1 + (1 << 24), 7 + (1 << 30),
            1 - (1 << 31), 7 - (1 << 31)};
    }

    /** Numbers that are no topic: no filters, and filters with ONE or REST. */
    static int[] noTopics() {
        int[] none = noFilters();
        int[] wild = {
            list(ONE), list(REST), list(0, ONE), list(ONE, 0), list(0, REST),
            list(0, 0, 0, ONE), list(ONE, 0, 0, 0), list(4, 4, 4, REST)};
        int[] all = new int[none.length + wild.length];
        System.arraycopy(none, 0, all, 0, none.length);
        System.arraycopy(wild, 0, all, none.length, wild.length);
        return all;
    }

    /** Ends the test's program: exit code 1 if an answer was not the one due, or if none was looked at. */
    static void finish() {
        sentenceWasLookedAt();
        System.out.println(wrong == 0 ? compared + " answers are as due" : wrong + " of " + compared + " answers are not as due");
        if (wrong != 0 || compared == 0) {
            System.exit(1);
        }
    }
}
