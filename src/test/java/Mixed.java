import java.util.function.BiConsumer;
import java.util.function.Supplier;

/**
 * States that fixed sequences of mixed calls lead to, each made anew at each call of its maker.
 * They have 8 clients and the weight limit 36, like those of States; one sequence meets its horizon.
 */
final class Mixed {
    private static final int SEQUENCES = 8;
    private static final int CALLS = 60;
    private static final int NEAR_HORIZON = 40;

    private long seed;
    private final EligibleDeadline made;

    private Mixed(int sequence) {
        seed = 977L * sequence + 13;
        int horizon = sequence == 0 ? NEAR_HORIZON : States.SOME_HORIZON;
        made = new EligibleDeadline(States.CLIENTS, States.WEIGHT_LIMIT, horizon);
    }

    static void inEachState(BiConsumer<String, Supplier<EligibleDeadline>> look) {
        for (int sequence = 0; sequence < SEQUENCES; sequence++) {
            for (int calls = 0; calls <= CALLS; calls++) {
                int number = sequence;
                int length = calls;
                look.accept(" after " + calls + " calls of sequence " + sequence, () -> after(number, length));
            }
        }
    }

    /** What a state tells of each present client. */
    static void ofEachPresent(PresentClient look) {
        inEachState((when, maker) -> {
            EligibleDeadline x = maker.get();
            for (int client = 0; client < States.CLIENTS; client++) {
                if (x.weight(client) > 0) {
                    look.at(x, client, when);
                }
            }
        });
    }

    interface PresentClient {
        void at(EligibleDeadline x, int client, String when);
    }

    private static EligibleDeadline after(int sequence, int calls) {
        Mixed mixed = new Mixed(sequence);
        for (int i = 0; i < calls; i++) {
            mixed.call();
        }
        return mixed.made;
    }

    private void call() {
        int client = draw(States.CLIENTS);
        switch (draw(8)) {
            case 0: case 1:
                made.join(client, 1 + draw(7));
                break;
            case 2:
                made.leave(client);
                break;
            case 3:
                made.stay(client);
                break;
            case 4:
                made.reweigh(client, 1 + draw(7));
                break;
            default:
                made.run(1 + draw(5));
                break;
        }
    }

    private int draw(int below) {
        seed = seed * 6364136223846793005L + 1442695040888963407L;
        return (int) ((seed >>> 33) % below);
    }
}
