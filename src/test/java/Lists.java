import java.util.ArrayList;
import java.util.Arrays;
import java.util.List;
import java.util.Set;
import java.util.TreeSet;

/** All lists of levels, made by counting through them rather than by looking at a number's digits. */
final class Lists {
    private Lists() {
    }

    /** All lists of exactly so many levels, each from 0 to last. */
    static List<int[]> ofLength(int length, int last) {
        List<int[]> all = new ArrayList<>();
        int[] levels = new int[length];
        while (true) {
            all.add(levels.clone());
            int place = length - 1;
            while (place >= 0 && levels[place] == last) {
                levels[place--] = 0;
            }
            if (place < 0) {
                return all;
            }
            levels[place]++;
        }
    }

    static Set<Integer> topics() {
        Set<Integer> all = new TreeSet<>();
        for (int length = 1; length <= 4; length++) {
            for (int[] levels : ofLength(length, 4)) {
                all.add(Check.list(levels));
            }
        }
        return all;
    }

    static Set<Integer> filters() {
        Set<Integer> all = new TreeSet<>();
        for (int length = 1; length <= 4; length++) {
            for (int[] levels : ofLength(length, Check.ONE)) {
                all.add(Check.list(levels));
            }
        }
        for (int before = 0; before <= 3; before++) {
            for (int[] levels : ofLength(before, Check.ONE)) {
                all.add(Check.list(with(levels, Check.REST)));
            }
        }
        return all;
    }

    /** So many levels, all the same. */
    static int[] repeat(int level, int length) {
        int[] levels = new int[length];
        Arrays.fill(levels, level);
        return levels;
    }

    /** The list with one level more at its end. */
    static int[] with(int[] levels, int last) {
        int[] longer = Arrays.copyOf(levels, levels.length + 1);
        longer[levels.length] = last;
        return longer;
    }

    /** The list with another level at one place. */
    static int[] changed(int[] levels, int place, int level) {
        int[] other = levels.clone();
        other[place] = level;
        return other;
    }
}
