import java.util.ArrayDeque;
import java.util.ArrayList;
import java.util.Deque;
import java.util.LinkedHashMap;
import java.util.List;
import java.util.Map;
import java.util.SortedMap;
import java.util.TreeMap;

/** The document's words over the library's collections: what TopicBroker is compared with. */
final class Model {
    private record Message(int topic, int value, int grade) {
    }

    private static final class Client {
        final Map<Integer, Integer> grades = new LinkedHashMap<>();
        final Deque<Message> queue = new ArrayDeque<>();
        boolean online = true;
        int lost = 0;
    }

    private static final List<Integer> TOPICS = topics();

    private final Client[] clients = {new Client(), new Client(), new Client(), new Client()};
    private final SortedMap<Integer, Integer> kept = new TreeMap<>();

    private static List<Integer> topics() {
        List<Integer> all = new ArrayList<>();
        List<Integer> longest = List.of(0);
        for (int levels = 1; levels <= 4; levels++) {
            List<Integer> longer = new ArrayList<>();
            for (int start : longest) {
                for (int level = 0; level <= 4; level++) {
                    longer.add(start * 8 + level + 1);
                }
            }
            all.addAll(longer);
            longest = longer;
        }
        return all;
    }

    private static boolean isTopic(int t) {
        return t > 0 && Integer.toOctalString(t).matches("[1-5]{1,4}");
    }

    private static boolean isFilter(int f) {
        return f > 0 && Integer.toOctalString(f).matches("[1-6]{0,3}[1-7]");
    }

    private static boolean isClient(int c) {
        return 0 <= c && c <= 3;
    }

    private static boolean isGrade(int grade) {
        return 0 <= grade && grade <= 2;
    }

    boolean matches(int f, int t) {
        if (!isFilter(f) || !isTopic(t)) {
            return false;
        }
        String pattern = Integer.toOctalString(f).replace("6", ".").replace("7", ".*");
        return Integer.toOctalString(t).matches(pattern);
    }

    private boolean send(Client client, Message message) {
        if (!client.online && message.grade() == 0) {
            return false;
        }
        if (client.queue.size() == 12) {
            client.lost++;
            return false;
        }
        client.queue.addLast(message);
        return true;
    }

    int subscribe(int c, int f, int grade) {
        if (!isClient(c) || !isFilter(f) || !isGrade(grade)) {
            return Check.BAD_ARG;
        }
        Client client = clients[c];
        if (client.grades.size() == 5 && !client.grades.containsKey(f)) {
            return Check.FULL;
        }
        client.grades.put(f, grade);
        int count = 0;
        for (Map.Entry<Integer, Integer> entry : kept.entrySet()) {
            if (matches(f, entry.getKey())) {
                send(client, new Message(entry.getKey(), entry.getValue(), Math.min(grade, 1)));
                count++;
            }
        }
        return count;
    }

    int unsubscribe(int c, int f) {
        if (!isClient(c) || !isFilter(f)) {
            return Check.BAD_ARG;
        }
        Integer grade = clients[c].grades.remove(f);
        return grade == null ? Check.NONE : grade;
    }

    int subscriptions(int c) {
        return isClient(c) ? clients[c].grades.size() : Check.BAD_ARG;
    }

    int publish(int t, int value, int grade) {
        if (!isTopic(t) || !isGrade(grade)) {
            return Check.BAD_ARG;
        }
        int went = 0;
        for (Client client : clients) {
            int best = client.grades.entrySet().stream().filter(e -> matches(e.getKey(), t))
                .mapToInt(Map.Entry::getValue).max().orElse(-1);
            if (best >= 0 && send(client, new Message(t, value, Math.min(best, grade)))) {
                went++;
            }
        }
        return went;
    }

    int keep(int t, int value) {
        if (!isTopic(t)) {
            return Check.BAD_ARG;
        }
        if (!kept.containsKey(t) && kept.size() == 8) {
            return Check.FULL;
        }
        return kept.put(t, value) == null ? 0 : 1;
    }

    int forget(int t) {
        if (!isTopic(t)) {
            return Check.BAD_ARG;
        }
        return kept.remove(t) == null ? Check.NONE : 0;
    }

    int kept(int f) {
        return isFilter(f) ? (int) kept.keySet().stream().filter(t -> matches(f, t)).count() : Check.BAD_ARG;
    }

    int connect(int c, int on) {
        if (!isClient(c)) {
            return Check.BAD_ARG;
        }
        int before = clients[c].online ? 1 : 0;
        clients[c].online = on != 0;
        return before;
    }

    int waiting(int c) {
        return isClient(c) ? clients[c].queue.size() : Check.BAD_ARG;
    }

    int firstTopic(int c) {
        if (!isClient(c)) {
            return Check.BAD_ARG;
        }
        return clients[c].queue.isEmpty() ? Check.NONE : clients[c].queue.getFirst().topic();
    }

    int firstGrade(int c) {
        if (!isClient(c)) {
            return Check.BAD_ARG;
        }
        return clients[c].queue.isEmpty() ? Check.NONE : clients[c].queue.getFirst().grade();
    }

    int take(int c) {
        if (!isClient(c) || !clients[c].online || clients[c].queue.isEmpty()) {
            return 0;
        }
        return clients[c].queue.removeFirst().value();
    }

    int lost(int c) {
        return isClient(c) ? clients[c].lost : Check.BAD_ARG;
    }

    private boolean hears(int c, int t) {
        return clients[c].grades.keySet().stream().anyMatch(f -> matches(f, t));
    }

    int reached(int t) {
        if (!isTopic(t)) {
            return Check.BAD_ARG;
        }
        int set = 0;
        for (int c = 0; c < 4; c++) {
            set += hears(c, t) ? 1 << c : 0;
        }
        return set;
    }

    int breadth(int c) {
        return isClient(c) ? (int) TOPICS.stream().filter(t -> hears(c, t)).count() : Check.BAD_ARG;
    }
}
