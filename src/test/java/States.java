import java.util.LinkedHashMap;
import java.util.Map;
import java.util.function.Supplier;

/**
 * Objects in the states in which the edges are met, made anew at each call. All have 8 clients and
 * the weight limit 36, so that in each of them -1 and 8 are bad clients and 5 is an absent one.
 */
final class States {
    static final long UNIT = 144403552893600L;
    static final int CLIENTS = 8;
    static final int WEIGHT_LIMIT = 36;
    static final int SOME_HORIZON = 1000;
    static final int ABSENT_CLIENT = 5;

    // 9 to 31 are names that an object with more clients would know.
    static final int[] BAD_CLIENTS = {Integer.MIN_VALUE, -32, -8, -1, 8, 9, 31, 32, 256, Integer.MAX_VALUE};
    static final int[] BAD_WEIGHTS = {Integer.MIN_VALUE, -36, -1, 0, 37, 64, 257, Integer.MAX_VALUE};

    private States() {
    }

    static EligibleDeadline empty() {
        return new EligibleDeadline(CLIENTS, WEIGHT_LIMIT, SOME_HORIZON);
    }

    static EligibleDeadline joined(int... weights) {
        EligibleDeadline x = empty();
        for (int client = 0; client < weights.length; client++) {
            x.join(client, weights[client]);
        }
        return x;
    }

    /**
     * Weights 1 and 3; the quanta go to 1, 0, 1, 1 and so on in turn. The advances are, in parts
     * of UNIT, after the first -1/4 and 1/12, then 1/2 and -1/6, then 1/4 and -1/12, then 0 and 0.
     */
    static EligibleDeadline twoAfter(int quanta) {
        EligibleDeadline x = joined(1, 3);
        x.run(quanta);
        return x;
    }

    static EligibleDeadline twoMarked() {
        EligibleDeadline x = twoAfter(1);
        x.leave(0);
        x.leave(1);
        return x;
    }

    static EligibleDeadline allWeightTaken() {
        EligibleDeadline x = twoAfter(1);
        x.join(2, 32);
        return x;
    }

    static EligibleDeadline atHorizon() {
        EligibleDeadline x = new EligibleDeadline(CLIENTS, WEIGHT_LIMIT, 5);
        x.join(0, 1);
        x.join(1, 3);
        x.run(5);
        return x;
    }

    static EligibleDeadline markedAtHorizon() {
        EligibleDeadline x = atHorizon();
        x.leave(0);
        x.leave(1);
        return x;
    }

    static EligibleDeadline emptyAtHorizon() {
        EligibleDeadline x = new EligibleDeadline(CLIENTS, WEIGHT_LIMIT, 4);
        x.join(0, 1);
        x.join(1, 3);
        x.run(4);
        x.leave(0);
        x.leave(1);
        return x;
    }

    static EligibleDeadline allGone() {
        EligibleDeadline x = twoMarked();
        x.run(3);
        return x;
    }

    static EligibleDeadline logWrapped() {
        EligibleDeadline x = twoAfter(64);
        x.run(64);
        x.run(3);
        return x;
    }

    static Map<String, Supplier<EligibleDeadline>> all() {
        Map<String, Supplier<EligibleDeadline>> all = new LinkedHashMap<>();
        all.put("empty", States::empty);
        all.put("just joined", () -> joined(1, 3));
        all.put("one behind and one beyond the mean", () -> twoAfter(1));
        all.put("both marked", States::twoMarked);
        all.put("all weight taken", States::allWeightTaken);
        all.put("at the horizon", States::atHorizon);
        all.put("marked at the horizon", States::markedAtHorizon);
        all.put("empty at the horizon", States::emptyAtHorizon);
        all.put("all gone", States::allGone);
        all.put("log wrapped", States::logWrapped);
        return all;
    }
}
