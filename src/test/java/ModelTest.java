/**
 * Long mixed runs of calls on the class and on the model side by side (promises 1 to 17): each
 * call must answer alike, and after each call all that can be asked must be alike too. The calls
 * are drawn from a fixed sequence, so that every run of this test makes the same ones.
 */
public final class ModelTest {
    private static final int[] ODD_NUMBERS = {
        Integer.MIN_VALUE, -1, 0, 1, 31, 32, 33, 36, 37, 63, 64, 65, Integer.MAX_VALUE};
    private static final long[] ODD_ALLOWANCES = {
        Long.MIN_VALUE, -1000000000000000000L, -1, 0, 1, 1000000000000000000L, Long.MAX_VALUE};

    private long state;
    private final EligibleDeadline real;
    private final Model model;
    private final int clients;
    private final int weightLimit;
    private String last;

    private ModelTest(long seed, int clients, int weightLimit, int horizon) {
        this.state = seed * 2862933555777941757L + 3037000493L;
        this.clients = clients;
        this.weightLimit = weightLimit;
        this.real = new EligibleDeadline(clients, weightLimit, horizon);
        this.model = new Model(clients, weightLimit, horizon);
        this.last = "new EligibleDeadline(" + clients + ", " + weightLimit + ", " + horizon + ")";
    }

    public static void main(String[] args) {
        int[][] sizes = {
            {1, 1, 1}, {2, 2, 50}, {2, 4, 30000}, {3, 6, 2000}, {3, 36, 30000}, {4, 12, 30000}, {5, 36, 500},
            {8, 36, 30000}, {16, 24, 30000}, {32, 36, 30000}, {32, 32, 100}, {40, 50, 40000}, {0, -1, -7},
            {Integer.MIN_VALUE, Integer.MIN_VALUE, Integer.MIN_VALUE},
            {Integer.MAX_VALUE, Integer.MAX_VALUE, Integer.MAX_VALUE}};
        for (int i = 0; i < sizes.length; i++) {
            for (int seed = 0; seed < 4; seed++) {
                new ModelTest(100L * i + seed, sizes[i][0], sizes[i][1], sizes[i][2]).compare(300, 25 * seed);
            }
        }
        Due.end();
    }

    private void compare(int calls, int runShare) {
        compareState();
        for (int i = 0; i < calls && Due.wrongSoFar() == 0; i++) {
            compareCall(runShare);
            compareState();
        }
    }

    private void compareCall(int runShare) {
        if (draw(100) < runShare) {
            compareRun(1 + draw(draw(4) == 0 ? 64 : 3));
            return;
        }
        int client = someClient();
        int weight = someWeight();
        switch (draw(6)) {
            case 0: case 1:
                last = "join(" + client + ", " + weight + ")";
                Due.is(last, real.join(client, weight), model.join(client, weight));
                break;
            case 2:
                last = "leave(" + client + ")";
                Due.is(last, real.leave(client), model.leave(client));
                break;
            case 3:
                last = "stay(" + client + ")";
                Due.is(last, real.stay(client), model.stay(client));
                break;
            case 4:
                last = "reweigh(" + client + ", " + weight + ")";
                Due.is(last, real.reweigh(client, weight), model.reweigh(client, weight));
                break;
            default:
                compareRun(draw(5) == 0 ? oddNumber() : 1 + draw(5));
                break;
        }
    }

    private void compareRun(int count) {
        last = "run(" + count + ")";
        Due.is(last, real.run(count), model.run(count));
    }

    private void compareState() {
        alike("next", 0, real.next(), model.bestWithin(0));
        alike("eligible", 0, real.eligible(), model.eligible());
        alike("totalWeight", 0, real.totalWeight(), model.totalWeight());
        alike("clock", 0, real.clock(), model.clock());
        for (int client = -1; client <= 32; client++) {
            compareClient(client);
        }
        compareClient(oddNumber());
        for (int back = -1; back <= 65; back++) {
            alike("ranAt", back, real.ranAt(back), model.ranAt(back));
        }
        for (long allowance : ODD_ALLOWANCES) {
            compareBest(allowance);
        }
    }

    private void compareClient(int client) {
        alike("lag", client, real.lag(client), model.lag(client));
        alike("deadline", client, real.deadline(client), model.deadline(client));
        alike("weight", client, real.weight(client), model.weight(client));
        alike("served", client, real.served(client), model.served(client));
        alike("leaving", client, real.leaving(client) ? 1 : 0, model.leaving(client) ? 1 : 0);
        if (model.weight(client) > 0) {
            long advance = model.advance(client);
            compareBest(advance - 1);
            compareBest(advance);
            compareBest(advance + 1);
        }
    }

    private void compareBest(long allowance) {
        alike("bestWithin", allowance, real.bestWithin(allowance), model.bestWithin(allowance));
    }

    // The text is put together only for a wrong answer: there are millions of right ones.
    private void alike(String call, long argument, long got, long want) {
        Due.is(got == want ? call : call + " of " + argument + " after " + last, got, want);
    }

    private int someClient() {
        return draw(20) == 0 ? oddNumber() : draw(Math.max(1, Math.min(32, clients)));
    }

    // Mostly small, so that several clients find room beside each other.
    private int someWeight() {
        if (draw(20) == 0) {
            return oddNumber();
        }
        int most = Math.max(1, Math.min(36, weightLimit));
        return 1 + draw(draw(3) == 0 ? most : Math.min(most, 4));
    }

    private int oddNumber() {
        return ODD_NUMBERS[draw(ODD_NUMBERS.length)];
    }

    private int draw(int below) {
        state = state * 6364136223846793005L + 1442695040888963407L;
        return (int) ((state >>> 33) % below);
    }
}
