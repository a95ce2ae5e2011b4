/** The edges that promise 1 names, each sentence with a test of its own: construction and the start. */
public final class ConstructionEdgesTest {
    private static final int[] BELOW = {Integer.MIN_VALUE, Integer.MIN_VALUE + 1, -65536, -1, 0};
    private static final int[] EXTREMES = {Integer.MIN_VALUE, -1, 0, 1, 30001, Integer.MAX_VALUE};

    public static void main(String[] args) {
        Due.sentence("1: takes any three ints", ConstructionEdgesTest::anyThreeInts);
        Due.sentence("1: clients below 1 becomes 1", ConstructionEdgesTest::clientsBelow);
        Due.sentence("1: clients above 32 becomes 32", ConstructionEdgesTest::clientsAbove);
        Due.sentence("1: clients 1..32 is taken as it is", ConstructionEdgesTest::clientsAsGiven);
        Due.sentence("1: weightLimit below 1 becomes 1", ConstructionEdgesTest::weightLimitBelow);
        Due.sentence("1: weightLimit above 36 becomes 36", ConstructionEdgesTest::weightLimitAbove);
        Due.sentence("1: weightLimit 1..36 is taken as it is", ConstructionEdgesTest::weightLimitAsGiven);
        Due.sentence("1: horizon below 1 becomes 1", ConstructionEdgesTest::horizonBelow);
        Due.sentence("1: horizon above 30000 becomes 30000", ConstructionEdgesTest::horizonAbove);
        Due.sentence("1: horizon 1..30000 is taken as it is", ConstructionEdgesTest::horizonAsGiven);
        Due.sentence("1: at first all clients are absent", ConstructionEdgesTest::allAbsentAtFirst);
        Due.sentence("1: at first W is 0", ConstructionEdgesTest::noWeightAtFirst);
        Due.sentence("1: at first the clock is 0", ConstructionEdgesTest::clockZeroAtFirst);
        Due.sentence("1: at first the log is empty", ConstructionEdgesTest::logEmptyAtFirst);
        Due.sentence("1: one object knows nothing of another", ConstructionEdgesTest::objectsAreApart);
        Due.end();
    }

    private static void anyThreeInts() {
        for (int clients : EXTREMES) {
            for (int weightLimit : EXTREMES) {
                for (int horizon : EXTREMES) {
                    EligibleDeadline x = new EligibleDeadline(clients, weightLimit, horizon);
                    hasClients(x, clients < 2 ? 1 : 32);
                    hasWeightLimit(x, weightLimit < 2 ? 1 : 36);
                    hasHorizon(x, horizon < 2 ? 1 : 30000);
                }
            }
        }
    }

    private static void clientsBelow() {
        for (int clients : BELOW) {
            hasClients(new EligibleDeadline(clients, 20, 100), 1);
        }
    }

    private static void clientsAbove() {
        int[] above = {33, 34, 64, 256, 257, 65537, Integer.MAX_VALUE - 1, Integer.MAX_VALUE};
        for (int clients : above) {
            hasClients(new EligibleDeadline(clients, 20, 100), 32);
        }
    }

    private static void clientsAsGiven() {
        for (int clients = 1; clients <= 32; clients++) {
            hasClients(new EligibleDeadline(clients, 20, 100), clients);
        }
    }

    private static void weightLimitBelow() {
        for (int weightLimit : BELOW) {
            hasWeightLimit(new EligibleDeadline(4, weightLimit, 100), 1);
        }
    }

    private static void weightLimitAbove() {
        int[] above = {37, 38, 72, 256, 257, 65537, Integer.MAX_VALUE - 1, Integer.MAX_VALUE};
        for (int weightLimit : above) {
            hasWeightLimit(new EligibleDeadline(4, weightLimit, 100), 36);
        }
    }

    private static void weightLimitAsGiven() {
        for (int weightLimit = 1; weightLimit <= 36; weightLimit++) {
            hasWeightLimit(new EligibleDeadline(4, weightLimit, 100), weightLimit);
        }
    }

    private static void horizonBelow() {
        for (int horizon : BELOW) {
            hasHorizon(new EligibleDeadline(4, 20, horizon), 1);
        }
    }

    private static void horizonAbove() {
        int[] above = {30001, 32768, 60000, 65537, Integer.MAX_VALUE - 1, Integer.MAX_VALUE};
        for (int horizon : above) {
            hasHorizon(new EligibleDeadline(4, 20, horizon), 30000);
        }
    }

    private static void horizonAsGiven() {
        int[] within = {1, 2, 3, 63, 64, 65, 127, 128, 129, 255, 256, 257, 4096, 29999, 30000};
        for (int horizon : within) {
            hasHorizon(new EligibleDeadline(4, 20, horizon), horizon);
        }
    }

    private static void allAbsentAtFirst() {
        for (int clients = 1; clients <= 32; clients++) {
            EligibleDeadline x = new EligibleDeadline(clients, 36, 10);
            for (int client = 0; client < clients; client++) {
                Due.same("client " + client, Snapshot.ofClient(x, client), Snapshot.dueOfNobody(client));
                Due.is("leave(" + client + ")", x.leave(client), EligibleDeadline.ABSENT);
            }
            Due.is("next", x.next(), EligibleDeadline.NONE);
            Due.is("eligible", x.eligible(), 0);
        }
    }

    private static void noWeightAtFirst() {
        EligibleDeadline x = new EligibleDeadline(4, 20, 10);
        Due.is("totalWeight", x.totalWeight(), 0);
        Due.is("join(0, 20), the whole limit", x.join(0, 20), EligibleDeadline.OK);
    }

    private static void clockZeroAtFirst() {
        EligibleDeadline x = new EligibleDeadline(4, 20, 10);
        Due.is("clock", x.clock(), 0);
        x.join(0, 1);
        Due.is("run(64), the whole horizon", x.run(64), 10);
    }

    private static void logEmptyAtFirst() {
        EligibleDeadline x = new EligibleDeadline(4, 20, 10);
        for (int back = -1; back <= 64; back++) {
            Due.is("ranAt(" + back + ")", x.ranAt(back), EligibleDeadline.NONE);
        }
    }

    private static void objectsAreApart() {
        EligibleDeadline first = States.twoMarked();
        String before = Snapshot.of(first);
        EligibleDeadline second = new EligibleDeadline(2, 5, 3);
        Due.is("next of the second", second.next(), EligibleDeadline.NONE);
        Due.is("join(0, 5) of the second", second.join(0, 5), EligibleDeadline.OK);
        Due.is("run(64) of the second", second.run(64), 3);
        Due.same("the first", Snapshot.of(first), before);
    }

    private static void hasClients(EligibleDeadline x, int clients) {
        Due.is("leave(0) of " + clients, x.leave(0), EligibleDeadline.ABSENT);
        Due.is("leave of the last of " + clients, x.leave(clients - 1), EligibleDeadline.ABSENT);
        Due.is("leave beyond the last of " + clients, x.leave(clients), EligibleDeadline.BAD_CLIENT);
        Due.is("leave(-1) of " + clients, x.leave(-1), EligibleDeadline.BAD_CLIENT);
    }

    private static void hasWeightLimit(EligibleDeadline x, int weightLimit) {
        Due.is("join above the limit " + weightLimit, x.join(0, weightLimit + 1), EligibleDeadline.BAD_WEIGHT);
        Due.is("join at the limit " + weightLimit, x.join(0, weightLimit), EligibleDeadline.OK);
        Due.is("leave", x.leave(0), EligibleDeadline.OK);
    }

    private static void hasHorizon(EligibleDeadline x, int horizon) {
        x.join(0, 1);
        int given = 0;
        for (int calls = 0; calls < 500; calls++) {
            given += x.run(64);
        }
        Due.is("the quanta given by 500 times run(64)", given, horizon);
        Due.is("clock at the horizon", x.clock(), horizon);
    }
}
