import java.util.function.ToIntBiFunction;
import java.util.function.ToIntFunction;

/** Calls that must answer their code and leave everything as it was. */
final class Refused {
    private Refused() {
    }

    /** Makes the call on a broker in that standing, which must then show the same as one on which it was not made. */
    static void call(String name, Standing standing, ToIntFunction<TopicBroker> call, int code) {
        TopicBroker x = standing.make();
        Check.due(name + " on " + standing, call.applyAsInt(x), code);
        Check.same(name + " on " + standing + ", afterwards", Shown.of(x), standing.untouched());
    }

    /** Makes the call in every standing for everything that is no client. */
    static void client(String name, ToIntBiFunction<TopicBroker, Integer> call, int code) {
        for (Standing standing : Standing.values()) {
            for (int c : Check.noClients()) {
                call(name + "(" + c + ")", standing, x -> call.applyAsInt(x, c), code);
            }
        }
    }
}
