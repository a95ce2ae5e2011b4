import java.util.LinkedHashMap;
import java.util.Map;
import java.util.function.Consumer;
import java.util.function.Supplier;
import java.util.function.ToIntFunction;
import java.util.function.ToLongFunction;

/**
 * Checks that calls change nothing: neither what can be asked at once nor what comes after. One of
 * two objects made alike gets the calls, then both are asked alike and go on alike.
 */
final class Unchanged {
    private Unchanged() {
    }

    static void by(String calls, Supplier<EligibleDeadline> maker, Consumer<EligibleDeadline> made) {
        EligibleDeadline disturbed = maker.get();
        EligibleDeadline quiet = maker.get();
        made.accept(disturbed);
        Due.same("all after " + calls, Snapshot.of(disturbed), Snapshot.of(quiet));
        Due.same("what follows after " + calls, future(disturbed), future(quiet));
    }

    static void inEveryState(String calls, Consumer<EligibleDeadline> made) {
        States.all().forEach((state, maker) -> by(calls + ", " + state, maker, made));
    }

    static void refused(String call, Supplier<EligibleDeadline> maker, ToIntFunction<EligibleDeadline> made, int code) {
        Due.is(call, made.applyAsInt(maker.get()), code);
        by(call, maker, made::applyAsInt);
    }

    static void refusedInEveryState(String call, ToIntFunction<EligibleDeadline> made, int code) {
        States.all().forEach((state, maker) -> refused(call + ", " + state, maker, made, code));
    }

    /**
     * For calls that ask. A snapshot makes these calls itself, on both objects, and so would not
     * show what they change: here each question is put to an object of its own.
     */
    static void byAskingInEveryState(String calls, Consumer<EligibleDeadline> made) {
        States.all().forEach((state, maker) -> {
            questions().forEach((question, asked) -> {
                EligibleDeadline disturbed = maker.get();
                made.accept(disturbed);
                long due = asked.applyAsLong(maker.get());
                Due.is(question + " after " + calls + ", " + state, asked.applyAsLong(disturbed), due);
            });
            EligibleDeadline disturbed = maker.get();
            made.accept(disturbed);
            Due.same("what follows after " + calls + ", " + state, future(disturbed), future(maker.get()));
        });
    }

    private static Map<String, ToLongFunction<EligibleDeadline>> questions() {
        Map<String, ToLongFunction<EligibleDeadline>> questions = new LinkedHashMap<>();
        questions.put("next", x -> x.next());
        questions.put("eligible", x -> x.eligible());
        questions.put("totalWeight", x -> x.totalWeight());
        questions.put("clock", x -> x.clock());
        questions.put("bestWithin(MIN)", x -> x.bestWithin(Long.MIN_VALUE));
        questions.put("bestWithin(-1)", x -> x.bestWithin(-1));
        questions.put("bestWithin(MAX)", x -> x.bestWithin(Long.MAX_VALUE));
        for (int number = 0; number < States.CLIENTS; number++) {
            int client = number;
            questions.put("lag(" + client + ")", x -> x.lag(client));
            questions.put("deadline(" + client + ")", x -> x.deadline(client));
            questions.put("weight(" + client + ")", x -> x.weight(client));
            questions.put("served(" + client + ")", x -> x.served(client));
            questions.put("leaving(" + client + ")", x -> x.leaving(client) ? 1 : 0);
        }
        for (int number = 0; number < 64; number++) {
            int back = number;
            questions.put("ranAt(" + back + ")", x -> x.ranAt(back));
        }
        return questions;
    }

    // Each kind of call has its turn, with clients that go and come, so that something hidden shows.
    private static String future(EligibleDeadline x) {
        StringBuilder text = new StringBuilder();
        for (int turn = 0; turn < 12; turn++) {
            text.append(x.run(1)).append(' ').append(x.stay(turn % 3)).append(' ');
            text.append(x.leave((turn + 1) % 3)).append(' ').append(x.join(5 + turn % 3, 1 + turn % 2)).append(' ');
            text.append(x.run(2)).append(' ').append(x.reweigh((turn + 1) % 8, 1 + turn % 4)).append(' ');
            text.append(x.join(turn % 3, 2)).append('\n');
        }
        return text.append(Snapshot.of(x)).toString();
    }
}
