/** Promise 1, each sentence with a test of its own: construction and the start. */
public final class ConstructionTest {
    private static final int[] BELOW = {Integer.MIN_VALUE, Integer.MIN_VALUE + 1, -65536, -1, 0};
    private static final int[] EXTREMES = {Integer.MIN_VALUE, -1, 0, 1, 30001, Integer.MAX_VALUE};

    public static void main(String[] args) {
        Due.sentence("1: takes any three ints", ConstructionTest::anyThreeInts);
        Due.sentence("1: clients below 1 becomes 1", ConstructionTest::clientsBelow);
        Due.sentence("1: clients above 32 becomes 32", ConstructionTest::clientsAbove);
        Due.sentence("1: clients 1..32 is taken as it is", ConstructionTest::clientsAsGiven);
        Due.sentence("1: weightLimit below 1 becomes 1", ConstructionTest::weightLimitBelow);
        Due.sentence("1: weightLimit above 36 becomes 36", ConstructionTest::weightLimitAbove);
        Due.sentence("1: weightLimit 1..36 is taken as it is", ConstructionTest::weightLimitAsGiven);
        Due.sentence("1: horizon below 1 becomes 1", ConstructionTest::horizonBelow);
        Due.sentence("1: horizon above 30000 becomes 30000", ConstructionTest::horizonAbove);
        Due.sentence("1: horizon 1..30000 is taken as it is", ConstructionTest::horizonAsGiven);
        Due.sentence("1: everywhere else clients means the clamped value", ConstructionTest::clampedClientsEverywhere);
        Due.sentence("1: everywhere else weightLimit means the clamped value", ConstructionTest::clampedWeightLimitEverywhere);
        Due.sentence("1: everywhere else horizon means the clamped value", ConstructionTest::clampedHorizonEverywhere);
        Due.sentence("1: at first all clients are absent", ConstructionTest::allAbsentAtFirst);
        Due.sentence("1: at first W is 0", ConstructionTest::noWeightAtFirst);
        Due.sentence("1: at first the clock is 0", ConstructionTest::clockZeroAtFirst);
        Due.sentence("1: at first the log is empty", ConstructionTest::logEmptyAtFirst);
        Due.sentence("1: one object knows nothing of another", ConstructionTest::objectsAreApart);
        Due.end();
    }

    private static void anyThreeInts() {
        for (int clients : EXTREMES) {
            for (int weightLimit : EXTREMES) {
                for (int horizon : EXTREMES) {
                    EligibleDeadline x = new EligibleDeadline(clients, weightLimit, horizon);
                    hasClients(x, clients < 2 ? 1 : 32);
                    hasWeightLimit(x, weightLimit < 2 ? 1 : 36);
                    hasHorizon(x, horizon < 2 ? 1 : 30000);
                }
            }
        }
    }

    private static void clientsBelow() {
        for (int clients : BELOW) {
            hasClients(new EligibleDeadline(clients, 20, 100), 1);
        }
    }

    private static void clientsAbove() {
        int[] above = {33, 34, 64, 256, 257, 65537, Integer.MAX_VALUE - 1, Integer.MAX_VALUE};
        for (int clients : above) {
            hasClients(new EligibleDeadline(clients, 20, 100), 32);
        }
    }

    private static void clientsAsGiven() {
        for (int clients = 1; clients <= 32; clients++) {
            hasClients(new EligibleDeadline(clients, 20, 100), clients);
        }
    }

    private static void weightLimitBelow() {
        for (int weightLimit : BELOW) {
            hasWeightLimit(new EligibleDeadline(4, weightLimit, 100), 1);
        }
    }

    private static void weightLimitAbove() {
        int[] above = {37, 38, 72, 256, 257, 65537, Integer.MAX_VALUE - 1, Integer.MAX_VALUE};
        for (int weightLimit : above) {
            hasWeightLimit(new EligibleDeadline(4, weightLimit, 100), 36);
        }
    }

    private static void weightLimitAsGiven() {
        for (int weightLimit = 1; weightLimit <= 36; weightLimit++) {
            hasWeightLimit(new EligibleDeadline(4, weightLimit, 100), weightLimit);
        }
    }

    private static void horizonBelow() {
        for (int horizon : BELOW) {
            hasHorizon(new EligibleDeadline(4, 20, horizon), 1);
        }
    }

    private static void horizonAbove() {
        int[] above = {30001, 32768, 60000, 65537, Integer.MAX_VALUE - 1, Integer.MAX_VALUE};
        for (int horizon : above) {
            hasHorizon(new EligibleDeadline(4, 20, horizon), 30000);
        }
    }

    private static void horizonAsGiven() {
        int[] within = {1, 2, 3, 63, 64, 65, 127, 128, 129, 255, 256, 257, 4096, 29999, 30000};
        for (int horizon : within) {
            hasHorizon(new EligibleDeadline(4, 20, horizon), horizon);
        }
    }

    private static void clampedClientsEverywhere() {
        int[][] clamped = {{-7, 1}, {0, 1}, {33, 32}, {1000, 32}};
        for (int[] each : clamped) {
            EligibleDeadline x = new EligibleDeadline(each[0], 36, 100);
            int bad = each[1];
            Due.is("join(" + bad + ", 1)", x.join(bad, 1), EligibleDeadline.BAD_CLIENT);
            Due.is("leave(" + bad + ")", x.leave(bad), EligibleDeadline.BAD_CLIENT);
            Due.is("stay(" + bad + ")", x.stay(bad), EligibleDeadline.BAD_CLIENT);
            Due.is("reweigh(" + bad + ", 1)", x.reweigh(bad, 1), EligibleDeadline.BAD_CLIENT);
            Due.same("the bad client", Snapshot.ofClient(x, bad), Snapshot.dueOfNobody(bad));
            Due.is("join of the last name", x.join(bad - 1, 1), EligibleDeadline.OK);
            Due.is("next", x.next(), bad - 1);
            Due.is("eligible", x.eligible(), 1);
        }
    }

    private static void clampedWeightLimitEverywhere() {
        int[][] clamped = {{-7, 1}, {0, 1}, {37, 36}, {1000, 36}};
        for (int[] each : clamped) {
            EligibleDeadline x = new EligibleDeadline(4, each[0], 100);
            int limit = each[1];
            Due.is("join above the limit", x.join(0, limit + 1), EligibleDeadline.BAD_WEIGHT);
            Due.is("join at the limit", x.join(0, limit), EligibleDeadline.OK);
            Due.is("join beside it", x.join(1, 1), EligibleDeadline.FULL);
            Due.is("reweigh above the limit", x.reweigh(0, limit + 1), EligibleDeadline.BAD_WEIGHT);
            Due.is("reweigh at the limit", x.reweigh(0, limit), EligibleDeadline.OK);
            Due.is("totalWeight", x.totalWeight(), limit);
        }
        EligibleDeadline x = new EligibleDeadline(4, 40, 100);
        x.join(0, 30);
        x.join(1, 5);
        Due.is("reweigh beyond the room", x.reweigh(1, 7), EligibleDeadline.FULL);
        Due.is("reweigh in the room", x.reweigh(1, 6), EligibleDeadline.OK);
    }

    private static void clampedHorizonEverywhere() {
        int[][] clamped = {{-7, 1}, {0, 1}, {30001, 30000}, {100000, 30000}};
        for (int[] each : clamped) {
            EligibleDeadline x = new EligibleDeadline(4, 36, each[0]);
            x.join(0, 1);
            x.join(1, 1);
            hasHorizon(x, each[1]);
            Due.is("run(1) at the horizon", x.run(1), 0);
            Due.is("next at the horizon", x.next(), each[1] % 2);
            Due.is("join at the horizon", x.join(2, 3), EligibleDeadline.OK);
        }
    }

    private static void allAbsentAtFirst() {
        for (int clients = 1; clients <= 32; clients++) {
            EligibleDeadline x = new EligibleDeadline(clients, 36, 10);
            for (int client = 0; client < clients; client++) {
                Due.same("client " + client, Snapshot.ofClient(x, client), Snapshot.dueOfNobody(client));
                Due.is("leave(" + client + ")", x.leave(client), EligibleDeadline.ABSENT);
            }
            Due.is("next", x.next(), EligibleDeadline.NONE);
            Due.is("eligible", x.eligible(), 0);
        }
    }

    private static void noWeightAtFirst() {
        EligibleDeadline x = new EligibleDeadline(4, 20, 10);
        Due.is("totalWeight", x.totalWeight(), 0);
        Due.is("join(0, 20), the whole limit", x.join(0, 20), EligibleDeadline.OK);
    }

    private static void clockZeroAtFirst() {
        EligibleDeadline x = new EligibleDeadline(4, 20, 10);
        Due.is("clock", x.clock(), 0);
        x.join(0, 1);
        Due.is("run(64), the whole horizon", x.run(64), 10);
    }

    private static void logEmptyAtFirst() {
        EligibleDeadline x = new EligibleDeadline(4, 20, 10);
        for (int back = -1; back <= 64; back++) {
            Due.is("ranAt(" + back + ")", x.ranAt(back), EligibleDeadline.NONE);
        }
    }

    private static void objectsAreApart() {
        EligibleDeadline first = States.twoMarked();
        String before = Snapshot.of(first);
        EligibleDeadline second = new EligibleDeadline(2, 5, 3);
        Due.is("next of the second", second.next(), EligibleDeadline.NONE);
        Due.is("join(0, 5) of the second", second.join(0, 5), EligibleDeadline.OK);
        Due.is("run(64) of the second", second.run(64), 3);
        Due.same("the first", Snapshot.of(first), before);
    }

    private static void hasClients(EligibleDeadline x, int clients) {
        Due.is("leave(0) of " + clients, x.leave(0), EligibleDeadline.ABSENT);
        Due.is("leave of the last of " + clients, x.leave(clients - 1), EligibleDeadline.ABSENT);
        Due.is("leave beyond the last of " + clients, x.leave(clients), EligibleDeadline.BAD_CLIENT);
        Due.is("leave(-1) of " + clients, x.leave(-1), EligibleDeadline.BAD_CLIENT);
    }

    private static void hasWeightLimit(EligibleDeadline x, int weightLimit) {
        Due.is("join above the limit " + weightLimit, x.join(0, weightLimit + 1), EligibleDeadline.BAD_WEIGHT);
        Due.is("join at the limit " + weightLimit, x.join(0, weightLimit), EligibleDeadline.OK);
        Due.is("leave", x.leave(0), EligibleDeadline.OK);
    }

    private static void hasHorizon(EligibleDeadline x, int horizon) {
        x.join(0, 1);
        int given = 0;
        for (int calls = 0; calls < 500; calls++) {
            given += x.run(64);
        }
        Due.is("the quanta given by 500 times run(64)", given, horizon);
        Due.is("clock at the horizon", x.clock(), horizon);
    }
}
