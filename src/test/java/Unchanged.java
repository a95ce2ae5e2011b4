import java.util.Map;
import java.util.function.Consumer;
import java.util.function.Supplier;
import java.util.function.ToIntFunction;

/**
 * Checks that calls change nothing: neither what can be asked at once nor what comes after. One of
 * two objects made alike gets the calls, then both go on alike.
 */
final class Unchanged {
    private Unchanged() {
    }

    static void by(String calls, Supplier<EligibleDeadline> maker, Consumer<EligibleDeadline> made) {
        EligibleDeadline disturbed = maker.get();
        EligibleDeadline quiet = maker.get();
        made.accept(disturbed);
        Due.same("all after " + calls, Snapshot.of(disturbed), Snapshot.of(quiet));
        Due.same("what follows after " + calls, future(disturbed), future(quiet));
    }

    static void inEveryState(String calls, Consumer<EligibleDeadline> made) {
        for (Map.Entry<String, Supplier<EligibleDeadline>> state : States.all().entrySet()) {
            by(calls + ", " + state.getKey(), state.getValue(), made);
        }
    }

    static void refused(String call, Supplier<EligibleDeadline> maker, ToIntFunction<EligibleDeadline> made, int code) {
        Due.is(call, made.applyAsInt(maker.get()), code);
        by(call, maker, made::applyAsInt);
    }

    static void refusedInEveryState(String call, ToIntFunction<EligibleDeadline> made, int code) {
        for (Map.Entry<String, Supplier<EligibleDeadline>> state : States.all().entrySet()) {
            refused(call + ", " + state.getKey(), state.getValue(), made, code);
        }
    }

    // Each kind of call has its turn, with clients that go and come, so that something hidden shows.
    private static String future(EligibleDeadline x) {
        StringBuilder text = new StringBuilder();
        for (int turn = 0; turn < 12; turn++) {
            text.append(x.run(1)).append(' ').append(Snapshot.of(x)).append('\n');
            text.append(x.stay(turn % 3)).append(' ').append(x.leave((turn + 1) % 3)).append(' ');
            text.append(x.join(5 + turn % 3, 1 + turn % 2)).append(' ').append(x.run(2)).append(' ');
            text.append(x.reweigh((turn + 1) % 8, 1 + turn % 4)).append(' ').append(x.join(turn % 3, 2)).append(' ');
            text.append(Snapshot.of(x)).append('\n');
        }
        return text.toString();
    }
}
