import java.util.function.Supplier;

/** Promise 5, each sentence with a test of its own: reweigh. */
public final class ReweighTest {
    private static final long UNIT = States.UNIT;

    public static void main(String[] args) {
        Due.sentence("5.1: bad client: BAD_CLIENT", ReweighTest::badClient);
        Due.sentence("5.2: absent: ABSENT", ReweighTest::absent);
        Due.sentence("5.3: weight < 1: BAD_WEIGHT", ReweighTest::weightTooSmall);
        Due.sentence("5.3: weight > weightLimit: BAD_WEIGHT", ReweighTest::weightTooLarge);
        Due.sentence("5.4: its advance is not 0: LAGGING", ReweighTest::lagging);
        Due.sentence("5.4: LAGGING also if the weight is the one it has", ReweighTest::laggingWithItsWeight);
        Due.sentence("5.5: W - (its present weight) + weight > weightLimit: FULL", ReweighTest::full);
        Due.sentence("5.5: not FULL when that sum is weightLimit", ReweighTest::upToTheLimit);
        Due.sentence("5.6: its weight becomes weight", ReweighTest::weightBecomes);
        Due.sentence("5.6: W changes accordingly", ReweighTest::sumChanges);
        Due.sentence("5: its advance stays 0", ReweighTest::advanceStaysZero);
        Due.sentence("5: its served count stays", ReweighTest::servedStays);
        Due.sentence("5: the other clients stay as they are", ReweighTest::othersStay);
        Due.sentence("5: so do the clock and the log", ReweighTest::clockAndLogStay);
        Due.sentence("5: the weight it has, at advance 0: OK, and all is as it was", ReweighTest::sameWeight);
        Due.sentence("5: reweigh at the horizon", ReweighTest::atTheHorizon);
        Due.end();
    }

    private static void badClient() {
        for (int bad : States.BAD_CLIENTS) {
            Unchanged.refusedInEveryState("reweigh(" + bad + ", 1)", x -> x.reweigh(bad, 1), EligibleDeadline.BAD_CLIENT);
        }
    }

    private static void absent() {
        Unchanged.refusedInEveryState("reweigh(5, 1)", x -> x.reweigh(States.ABSENT_CLIENT, 1), EligibleDeadline.ABSENT);
        Unchanged.refused("reweigh of one gone", States::allGone, x -> x.reweigh(0, 1), EligibleDeadline.ABSENT);
        Unchanged.refused("reweigh of one left", States::emptyAtHorizon, x -> x.reweigh(1, 3), EligibleDeadline.ABSENT);
    }

    private static void weightTooSmall() {
        int[] small = {Integer.MIN_VALUE, Integer.MIN_VALUE + 1, -256, -36, -1, 0};
        for (int weight : small) {
            Supplier<EligibleDeadline> maker = () -> States.joined(1, 3);
            Unchanged.refused("reweigh(1, " + weight + ")", maker, x -> x.reweigh(1, weight), EligibleDeadline.BAD_WEIGHT);
        }
        Due.is("reweigh(1, 1), the least weight", States.joined(1, 3).reweigh(1, 1), EligibleDeadline.OK);
    }

    private static void weightTooLarge() {
        int[] large = {37, 38, 256, 257, 65537, Integer.MAX_VALUE - 1, Integer.MAX_VALUE};
        for (int weight : large) {
            Supplier<EligibleDeadline> maker = () -> States.joined(1, 3);
            Unchanged.refused("reweigh(1, " + weight + ")", maker, x -> x.reweigh(1, weight), EligibleDeadline.BAD_WEIGHT);
        }
        for (int limit = 1; limit <= 36; limit++) {
            EligibleDeadline x = new EligibleDeadline(2, limit, 10);
            x.join(0, 1);
            Due.is("reweigh above the limit " + limit, x.reweigh(0, limit + 1), EligibleDeadline.BAD_WEIGHT);
            Due.is("reweigh to the limit " + limit, x.reweigh(0, limit), EligibleDeadline.OK);
        }
    }

    private static void lagging() {
        for (int weight = 1; weight <= 36; weight++) {
            int wanted = weight;
            String call = ", " + weight + ")";
            Unchanged.refused("reweigh(0" + call, () -> States.twoAfter(1), x -> x.reweigh(0, wanted), EligibleDeadline.LAGGING);
            Unchanged.refused("reweigh(1" + call, () -> States.twoAfter(1), x -> x.reweigh(1, wanted), EligibleDeadline.LAGGING);
            Unchanged.refused("marked" + call, States::twoMarked, x -> x.reweigh(1, wanted), EligibleDeadline.LAGGING);
        }
        Due.is("reweigh at advance 0 again", States.twoAfter(4).reweigh(0, 2), EligibleDeadline.OK);
    }

    private static void laggingWithItsWeight() {
        Unchanged.refused("behind the mean", () -> States.twoAfter(1), x -> x.reweigh(0, 1), EligibleDeadline.LAGGING);
        Unchanged.refused("beyond the mean", () -> States.twoAfter(1), x -> x.reweigh(1, 3), EligibleDeadline.LAGGING);
    }

    private static void full() {
        for (int limit = 2; limit <= 36; limit++) {
            for (int other = 1; other < limit; other++) {
                int tooMuch = limit - other + 1;
                Supplier<EligibleDeadline> maker = oneBeside(other, limit);
                Unchanged.refused("reweigh(0, " + tooMuch + ")", maker, x -> x.reweigh(0, tooMuch), EligibleDeadline.FULL);
            }
        }
    }

    private static void upToTheLimit() {
        for (int limit = 2; limit <= 36; limit++) {
            for (int other = 1; other < limit; other++) {
                EligibleDeadline x = oneBeside(other, limit).get();
                Due.is("reweigh to all that is left", x.reweigh(0, limit - other), EligibleDeadline.OK);
                Due.is("totalWeight", x.totalWeight(), limit);
                Due.is("reweigh to it again", x.reweigh(0, limit - other), EligibleDeadline.OK);
                Due.is("reweigh to the least", x.reweigh(0, 1), EligibleDeadline.OK);
                Due.is("totalWeight", x.totalWeight(), other + 1);
            }
        }
    }

    // Client 0 with weight 1 beside client 1.
    private static Supplier<EligibleDeadline> oneBeside(int other, int limit) {
        return () -> {
            EligibleDeadline x = new EligibleDeadline(2, limit, 10);
            x.join(0, 1);
            x.join(1, other);
            return x;
        };
    }

    private static void weightBecomes() {
        EligibleDeadline x = States.joined(1, 3);
        for (int weight = 1; weight <= 33; weight++) {
            Due.is("reweigh(0, " + weight + ")", x.reweigh(0, weight), EligibleDeadline.OK);
            Due.same("client 0", Snapshot.ofClient(x, 0), Snapshot.due(0, weight, 0, 0, false));
        }
        Due.is("next, now the heavier", x.next(), 0);
        x.run(1);
        Due.is("the quantum is one of the new weight", x.deadline(0), 2 * (UNIT / 33) - UNIT / 36);
    }

    private static void sumChanges() {
        EligibleDeadline x = States.joined(10, 3);
        x.reweigh(0, 20);
        Due.is("totalWeight after more", x.totalWeight(), 23);
        x.reweigh(0, 2);
        Due.is("totalWeight after less", x.totalWeight(), 5);
        Due.is("join beyond the room", x.join(5, 32), EligibleDeadline.FULL);
        Due.is("join in the room", x.join(5, 31), EligibleDeadline.OK);
        x.run(1);
        Due.is("the quantum moves the mean by UNIT / 36", x.lag(0), UNIT / 36 * 2);
        EligibleDeadline left = States.joined(10);
        left.reweigh(0, 36);
        left.leave(0);
        Due.is("totalWeight after all", left.totalWeight(), 0);
    }

    private static void advanceStaysZero() {
        EligibleDeadline x = States.twoAfter(4);
        x.reweigh(1, 7);
        Due.is("lag(1)", x.lag(1), 0);
        Due.is("deadline(1)", x.deadline(1), UNIT / 7);
        Due.is("leave(1)", x.leave(1), EligibleDeadline.OK);
    }

    private static void servedStays() {
        EligibleDeadline x = States.twoAfter(4);
        x.reweigh(1, 7);
        Due.is("served(1)", x.served(1), 3);
        x.run(1);
        Due.is("served(1) a quantum later", x.served(1), 4);
    }

    private static void othersStay() {
        EligibleDeadline x = States.twoMarked();
        x.stay(1);
        x.join(5, 2);
        Due.is("reweigh(5, 9)", x.reweigh(5, 9), EligibleDeadline.OK);
        Due.same("the marked one behind", Snapshot.ofClient(x, 0), Snapshot.due(0, 1, -UNIT / 4, 0, true));
        Due.same("the one beyond", Snapshot.ofClient(x, 1), Snapshot.due(1, 3, UNIT / 12, 1, false));
        Due.is("leaving(5)", x.leaving(5), false);
    }

    private static void clockAndLogStay() {
        EligibleDeadline x = States.logWrapped();
        x.join(5, 2);
        String log = Snapshot.ofLog(x);
        Due.is("reweigh(5, 9)", x.reweigh(5, 9), EligibleDeadline.OK);
        Due.is("clock", x.clock(), 131);
        Due.same("log", Snapshot.ofLog(x), log);
    }

    private static void sameWeight() {
        Due.is("reweigh(0, 1)", States.joined(1, 3).reweigh(0, 1), EligibleDeadline.OK);
        Due.is("reweigh(1, 3) after a round", States.twoAfter(4).reweigh(1, 3), EligibleDeadline.OK);
        Due.is("reweigh(2, 32) with nothing left", States.allWeightTaken().reweigh(2, 32), EligibleDeadline.OK);
        Unchanged.by("reweigh(0, 1)", () -> States.joined(1, 3), x -> x.reweigh(0, 1));
        Unchanged.by("reweigh(1, 3) after a round", () -> States.twoAfter(4), x -> x.reweigh(1, 3));
        Unchanged.by("reweigh(2, 32) with nothing left", States::allWeightTaken, x -> x.reweigh(2, 32));
    }

    private static void atTheHorizon() {
        EligibleDeadline x = States.atHorizon();
        x.join(5, 2);
        Due.is("reweigh(5, 32)", x.reweigh(5, 32), EligibleDeadline.OK);
        Due.is("reweigh(5, 33)", x.reweigh(5, 33), EligibleDeadline.FULL);
        Due.is("reweigh(0, 1)", x.reweigh(0, 1), EligibleDeadline.LAGGING);
        Due.is("totalWeight", x.totalWeight(), 36);
    }
}
