import java.util.function.Supplier;

/** Promise 2, each sentence with a test of its own: join. */
public final class JoinTest {
    private static final long UNIT = States.UNIT;

    public static void main(String[] args) {
        Due.sentence("2.1: bad client: BAD_CLIENT", JoinTest::badClient);
        Due.sentence("2.2: the client is present, not marked: PRESENT", JoinTest::present);
        Due.sentence("2.2: the client is present, marked: PRESENT", JoinTest::presentAndMarked);
        Due.sentence("2.3: weight < 1: BAD_WEIGHT", JoinTest::weightTooSmall);
        Due.sentence("2.3: weight > weightLimit: BAD_WEIGHT", JoinTest::weightTooLarge);
        Due.sentence("2.4: W + weight > weightLimit: FULL", JoinTest::full);
        Due.sentence("2.4: not FULL when W + weight is weightLimit", JoinTest::upToTheLimit);
        Due.sentence("2.5: present with this weight, advance 0, served 0 and no mark", JoinTest::asNew);
        Due.sentence("2.5: W grows by weight", JoinTest::weightGrows);
        Due.sentence("2: nothing of the others changes", JoinTest::othersStay);
        Due.sentence("2: the clock and the log do not change", JoinTest::clockAndLogStay);
        Due.sentence("2: joining works when the clock equals horizon too", JoinTest::atTheHorizon);
        Due.sentence("2: one that was present earlier joins like any other", JoinTest::joiningAgain);
        Due.sentence("2: no served count comes back", JoinTest::noServedCountComesBack);
        Due.sentence("2: no mark comes back", JoinTest::noMarkComesBack);
        Due.sentence("2: no weight and no advance come back", JoinTest::noWeightOrAdvanceComesBack);
        Due.end();
    }

    private static void badClient() {
        for (int bad : States.BAD_CLIENTS) {
            Unchanged.refusedInEveryState("join(" + bad + ", 1)", x -> x.join(bad, 1), EligibleDeadline.BAD_CLIENT);
        }
    }

    private static void present() {
        Unchanged.refused("join just after join", () -> States.joined(1, 3), x -> x.join(0, 1), EligibleDeadline.PRESENT);
        Unchanged.refused("join behind the mean", () -> States.twoAfter(1), x -> x.join(0, 1), EligibleDeadline.PRESENT);
        Unchanged.refused("join beyond the mean", () -> States.twoAfter(1), x -> x.join(1, 5), EligibleDeadline.PRESENT);
        Unchanged.refused("join at the horizon", States::atHorizon, x -> x.join(1, 5), EligibleDeadline.PRESENT);
    }

    private static void presentAndMarked() {
        Unchanged.refused("join behind the mean", States::twoMarked, x -> x.join(0, 1), EligibleDeadline.PRESENT);
        Unchanged.refused("join beyond the mean", States::twoMarked, x -> x.join(1, 3), EligibleDeadline.PRESENT);
        Unchanged.refused("join at the horizon", States::markedAtHorizon, x -> x.join(1, 3), EligibleDeadline.PRESENT);
    }

    private static void weightTooSmall() {
        int[] small = {Integer.MIN_VALUE, Integer.MIN_VALUE + 1, -256, -36, -1, 0};
        for (int weight : small) {
            Unchanged.refusedInEveryState(
                "join(5, " + weight + ")", x -> x.join(States.ABSENT_CLIENT, weight), EligibleDeadline.BAD_WEIGHT);
        }
        Due.is("join(0, 1), the least weight", States.empty().join(0, 1), EligibleDeadline.OK);
    }

    private static void weightTooLarge() {
        int[] large = {37, 38, 256, 257, 65537, Integer.MAX_VALUE - 1, Integer.MAX_VALUE};
        for (int weight : large) {
            Unchanged.refusedInEveryState(
                "join(5, " + weight + ")", x -> x.join(States.ABSENT_CLIENT, weight), EligibleDeadline.BAD_WEIGHT);
        }
        for (int limit = 1; limit <= 36; limit++) {
            EligibleDeadline x = new EligibleDeadline(2, limit, 10);
            Due.is("join above the limit " + limit, x.join(0, limit + 1), EligibleDeadline.BAD_WEIGHT);
            Due.is("join at the limit " + limit, x.join(0, limit), EligibleDeadline.OK);
        }
    }

    private static void full() {
        for (int limit = 2; limit <= 36; limit++) {
            for (int taken = 1; taken < limit; taken++) {
                Supplier<EligibleDeadline> maker = oneTakes(taken, limit);
                int tooMuch = limit - taken + 1;
                Unchanged.refused("join(1, " + tooMuch + ")", maker, x -> x.join(1, tooMuch), EligibleDeadline.FULL);
            }
            Unchanged.refused("join with all taken", oneTakes(limit, limit), x -> x.join(1, 1), EligibleDeadline.FULL);
            int most = limit;
            Unchanged.refused("join of all once more", oneTakes(limit, limit), x -> x.join(1, most), EligibleDeadline.FULL);
        }
        EligibleDeadline marked = States.twoMarked();
        Due.is("the weight of the marked counts", marked.join(5, 33), EligibleDeadline.FULL);
    }

    private static void upToTheLimit() {
        for (int limit = 2; limit <= 36; limit++) {
            for (int taken = 1; taken < limit; taken++) {
                EligibleDeadline x = oneTakes(taken, limit).get();
                Due.is("join of the rest beside " + taken + " of " + limit, x.join(1, limit - taken), EligibleDeadline.OK);
                Due.is("totalWeight", x.totalWeight(), limit);
            }
        }
        EligibleDeadline many = new EligibleDeadline(32, 32, 10);
        for (int client = 31; client >= 0; client--) {
            Due.is("join of every client with weight 1", many.join(client, 1), EligibleDeadline.OK);
        }
        EligibleDeadline gone = States.allGone();
        Due.is("the weight of the gone does not count", gone.join(5, 36), EligibleDeadline.OK);
    }

    private static Supplier<EligibleDeadline> oneTakes(int taken, int limit) {
        return () -> {
            EligibleDeadline x = new EligibleDeadline(2, limit, 10);
            x.join(0, taken);
            return x;
        };
    }

    private static void asNew() {
        for (int weight = 1; weight <= 32; weight++) {
            EligibleDeadline x = States.twoAfter(1);
            Due.is("join(5, " + weight + ")", x.join(5, weight), EligibleDeadline.OK);
            Due.same("the new client", Snapshot.ofClient(x, 5), Snapshot.due(5, weight, 0, 0, false));
        }
    }

    private static void weightGrows() {
        EligibleDeadline x = States.twoAfter(1);
        x.join(2, 5);
        Due.is("totalWeight after 1, 3 and 5", x.totalWeight(), 9);
        x.join(7, 27);
        Due.is("totalWeight after 27 more", x.totalWeight(), 36);
        x.run(1);
        Due.is("the quantum moves the mean by UNIT / 36", x.lag(0), UNIT / 4 + UNIT / 36);
    }

    private static void othersStay() {
        EligibleDeadline x = States.twoMarked();
        x.stay(1);
        x.join(5, 8);
        Due.same("the marked one behind", Snapshot.ofClient(x, 0), Snapshot.due(0, 1, -UNIT / 4, 0, true));
        Due.same("the one beyond", Snapshot.ofClient(x, 1), Snapshot.due(1, 3, UNIT / 12, 1, false));
        for (int client = 0; client < 8; client++) {
            if (client > 1 && client != 5) {
                Due.same("an absent one", Snapshot.ofClient(x, client), Snapshot.dueOfNobody(client));
            }
        }
    }

    private static void clockAndLogStay() {
        EligibleDeadline x = States.logWrapped();
        String log = Snapshot.ofLog(x);
        x.join(0, 1);
        x.join(5, 2);
        Due.is("clock", x.clock(), 131);
        Due.same("log", Snapshot.ofLog(x), log);
        EligibleDeadline fresh = States.joined(1, 3);
        Due.is("clock before the first quantum", fresh.clock(), 0);
        Due.is("ranAt(0) before the first quantum", fresh.ranAt(0), EligibleDeadline.NONE);
    }

    private static void atTheHorizon() {
        EligibleDeadline busy = States.atHorizon();
        Due.is("join at the horizon", busy.join(5, 4), EligibleDeadline.OK);
        Due.same("the new client", Snapshot.ofClient(busy, 5), Snapshot.due(5, 4, 0, 0, false));
        Due.is("totalWeight", busy.totalWeight(), 8);
        Due.is("clock", busy.clock(), 5);
        EligibleDeadline empty = States.emptyAtHorizon();
        Due.is("join again at the horizon", empty.join(0, 36), EligibleDeadline.OK);
        Due.same("the client", Snapshot.ofClient(empty, 0), Snapshot.due(0, 36, 0, 0, false));
        Due.is("refused at the horizon", empty.join(1, 1), EligibleDeadline.FULL);
    }

    private static void joiningAgain() {
        EligibleDeadline x = States.empty();
        for (int round = 1; round <= 36; round++) {
            Due.is("join, round " + round, x.join(3, round), EligibleDeadline.OK);
            Due.same("client", Snapshot.ofClient(x, 3), Snapshot.due(3, round, 0, 0, false));
            Due.is("run(3)", x.run(3), 3);
            Due.is("leave, round " + round, x.leave(3), EligibleDeadline.OK);
        }
    }

    private static void noServedCountComesBack() {
        EligibleDeadline left = States.twoAfter(4);
        left.leave(1);
        left.join(1, 3);
        Due.is("served(1), left at once", left.served(1), 0);
        EligibleDeadline gone = States.allGone();
        gone.join(1, 3);
        Due.is("served(1), gone in a quantum", gone.served(1), 0);
        gone.run(2);
        Due.is("served(1), counted anew", gone.served(1), 2);
    }

    private static void noMarkComesBack() {
        EligibleDeadline gone = States.allGone();
        gone.join(0, 1);
        gone.join(1, 3);
        Due.is("leaving(0)", gone.leaving(0), false);
        Due.is("stay(0)", gone.stay(0), EligibleDeadline.NOT_LEAVING);
        gone.run(4);
        Due.is("weight(0) at lag 0 once more", gone.weight(0), 1);
        Due.is("weight(1) at lag 0 once more", gone.weight(1), 3);
    }

    // Client 0 is beyond the mean when 2 goes, and 2 had been given a quantum before.
    private static void noWeightOrAdvanceComesBack() {
        EligibleDeadline x = States.joined(1, 1, 2);
        x.run(1);
        x.leave(2);
        x.run(1);
        Due.is("weight(2), gone", x.weight(2), 0);
        Due.is("join(2, 7)", x.join(2, 7), EligibleDeadline.OK);
        Due.same("client 2", Snapshot.ofClient(x, 2), Snapshot.due(2, 7, 0, 0, false));
        Due.is("totalWeight", x.totalWeight(), 9);
        x.run(1);
        Due.same("client 2 after its quantum", Snapshot.ofClient(x, 2), Snapshot.due(2, 7, UNIT / 7 - UNIT / 9, 1, false));
    }
}
