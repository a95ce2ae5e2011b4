import java.util.Map;
import java.util.function.Supplier;

/** Promise 6, each sentence with a test of its own: run and one quantum. */
public final class RunTest {
    private static final long UNIT = States.UNIT;

    public static void main(String[] args) {
        Due.sentence("6: count < 1: BAD_COUNT, in every state", RunTest::countTooSmall);
        Due.sentence("6: count > 64: BAD_COUNT, in every state", RunTest::countTooLarge);
        Due.sentence("6: counts 1 .. 64 are taken", RunTest::countsTaken);
        Due.sentence("6: before the first one, no client present: ends there", RunTest::noClientAtFirst);
        Due.sentence("6: before a later one, no client present: ends there", RunTest::noClientLater);
        Due.sentence("6: before the first one, the clock equals horizon: ends there", RunTest::horizonAtFirst);
        Due.sentence("6: before a later one, the clock equals horizon: ends there", RunTest::horizonLater);
        Due.sentence("6: the answer is the number of quanta given in this call", RunTest::answersTheQuantaGiven);
        Due.sentence("6: if the answer is 0, nothing has changed", RunTest::nothingGivenNothingChanged);
        Due.sentence("6: time without clients does not move the clock", RunTest::timeWithoutClients);
        Due.sentence("6: many quanta in one call are the same as one by one", RunTest::oneByOne);
        Due.sentence("6: a quantum is done only with at least one client present", RunTest::onlyWithAClient);
        Due.sentence("6, step 1: c = best(0), by the state before the quantum", RunTest::bestBeforeTheQuantum);
        Due.sentence("6, step 1: there always is one", RunTest::thereAlwaysIsOne);
        Due.sentence("6, step 2: advance(c) grows by step(c)", RunTest::advanceGrows);
        Due.sentence("6, step 2: served(c) grows by 1", RunTest::servedGrows);
        Due.sentence("6, step 3: advance(i) falls for every present client", RunTest::advancesFall);
        Due.sentence("6, step 3: c among them", RunTest::advanceOfTheOnlyOne);
        Due.sentence("6, step 4: the clock grows by 1", RunTest::clockGrows);
        Due.sentence("6, step 4: c is put in the log as the most recent entry", RunTest::logged);
        Due.sentence("6, step 5: a marked client that now has advance 0 becomes absent", RunTest::leaverGoes);
        Due.sentence("6, step 5: a marked client with another advance stays", RunTest::leaverBeyondTheMeanStays);
        Due.sentence("6, step 5: all such clients together", RunTest::leaversGoTogether);
        Due.sentence("6, step 5: W falls by their weights", RunTest::weightFalls);
        Due.sentence("6, step 5: the advances of the others do not change", RunTest::othersKeepTheirAdvances);
        Due.sentence("6: in step 3, W is still the sum before step 5", RunTest::sumBeforeDepartures);
        Due.sentence("6: the next quantum has the sum after step 5", RunTest::sumAfterDepartures);
        Due.sentence("6: c itself can be among those that become absent", RunTest::chosenLeaves);
        Due.sentence("6: its name is in the log all the same", RunTest::chosenThatLeftIsLogged);
        Due.sentence("6: unmarked clients with advance 0 stay present", RunTest::unmarkedStay);
        Due.sentence("6: no quantum changes a weight", RunTest::weightsStay);
        Due.sentence("6: no quantum sets a mark", RunTest::noMarkIsSet);
        Due.sentence("6: the served counts of the others do not grow", RunTest::othersAreNotServed);
        Due.sentence("6: the last one becomes absent: the call ends before the next quantum", RunTest::lastLeaves);
        Due.end();
    }

    private static void countTooSmall() {
        int[] small = {Integer.MIN_VALUE, Integer.MIN_VALUE + 1, -64, -1, 0};
        for (int count : small) {
            Unchanged.refusedInEveryState("run(" + count + ")", x -> x.run(count), EligibleDeadline.BAD_COUNT);
        }
    }

    private static void countTooLarge() {
        int[] large = {65, 66, 128, 256, 257, 65537, Integer.MAX_VALUE - 1, Integer.MAX_VALUE};
        for (int count : large) {
            Unchanged.refusedInEveryState("run(" + count + ")", x -> x.run(count), EligibleDeadline.BAD_COUNT);
        }
    }

    private static void countsTaken() {
        for (int count = 1; count <= 64; count++) {
            EligibleDeadline x = States.twoAfter(1);
            Due.is("run(" + count + ")", x.run(count), count);
            Due.is("clock", x.clock(), 1 + count);
        }
    }

    private static void noClientAtFirst() {
        int[] counts = {1, 2, 64};
        for (int count : counts) {
            Due.is("run, never a client", States.empty().run(count), 0);
            Due.is("run, all gone", States.allGone().run(count), 0);
            EligibleDeadline left = States.joined(3);
            left.leave(0);
            Due.is("run, the only one left", left.run(count), 0);
        }
    }

    private static void noClientLater() {
        for (int count = 3; count <= 64; count++) {
            EligibleDeadline x = States.twoMarked();
            Due.is("run(" + count + "), the last goes after 3", x.run(count), 3);
            Due.is("clock", x.clock(), 4);
        }
    }

    private static void horizonAtFirst() {
        int[] counts = {1, 2, 64};
        for (int count : counts) {
            Due.is("run at the horizon", States.atHorizon().run(count), 0);
            Due.is("run at the horizon, marked", States.markedAtHorizon().run(count), 0);
            Due.is("run at the horizon, empty", States.emptyAtHorizon().run(count), 0);
        }
    }

    private static void horizonLater() {
        for (int horizon = 1; horizon <= 64; horizon++) {
            EligibleDeadline x = new EligibleDeadline(8, 36, horizon);
            x.join(0, 1);
            x.join(1, 3);
            Due.is("run(64) up to the horizon " + horizon, x.run(64), horizon);
            Due.is("clock", x.clock(), horizon);
            Due.is("run(1) at the horizon", x.run(1), 0);
        }
    }

    private static void answersTheQuantaGiven() {
        EligibleDeadline x = new EligibleDeadline(8, 36, 100);
        x.join(0, 1);
        Due.is("run(64)", x.run(64), 64);
        Due.is("run(20), not counted on", x.run(20), 20);
        Due.is("run(16), just to the horizon", x.run(16), 16);
        Due.is("run(16), at the horizon", x.run(16), 0);
    }

    private static void nothingGivenNothingChanged() {
        for (Map.Entry<String, Supplier<EligibleDeadline>> state : States.all().entrySet()) {
            if (state.getValue().get().run(1) == 0) {
                Unchanged.by("run(1), " + state.getKey(), state.getValue(), x -> x.run(1));
                Unchanged.by("run(64), " + state.getKey(), state.getValue(), x -> x.run(64));
            }
        }
    }

    private static void timeWithoutClients() {
        EligibleDeadline x = States.empty();
        for (int i = 0; i < 20; i++) {
            x.run(64);
        }
        Due.is("clock, never a client", x.clock(), 0);
        EligibleDeadline gone = States.allGone();
        for (int i = 0; i < 20; i++) {
            gone.run(64);
        }
        Due.is("clock, all gone", gone.clock(), 4);
        gone.join(0, 1);
        Due.is("the whole rest of the horizon is left", gone.run(64), 64);
    }

    private static void oneByOne() {
        EligibleDeadline atOnce = States.joined(2, 3, 5, 7);
        EligibleDeadline single = States.joined(2, 3, 5, 7);
        atOnce.run(1);
        single.run(1);
        atOnce.leave(1);
        single.leave(1);
        atOnce.run(64);
        for (int i = 0; i < 64; i++) {
            single.run(1);
        }
        Due.same("64 at once and one by one", Snapshot.of(atOnce), Snapshot.of(single));
    }

    private static void onlyWithAClient() {
        Mixed.inEachState((when, maker) -> {
            EligibleDeadline x = maker.get();
            boolean someone = x.totalWeight() > 0;
            int clock = x.clock();
            int given = x.run(1);
            Due.is("a quantum without a client" + when, given > 0 && !someone, false);
            Due.is("clock" + when, x.clock(), clock + given);
            Due.is("NONE is in the log" + when, given > 0 && x.ranAt(0) < 0, false);
        });
        Due.is("ranAt(0) of time without clients", ranWithoutClients().ranAt(0), EligibleDeadline.NONE);
    }

    private static EligibleDeadline ranWithoutClients() {
        EligibleDeadline x = States.empty();
        x.run(64);
        return x;
    }

    private static void bestBeforeTheQuantum() {
        EligibleDeadline x = States.joined(2, 3, 5, 7);
        for (int quanta = 0; quanta < 200; quanta++) {
            int best = x.bestWithin(0);
            x.run(1);
            Due.is("the client of quantum " + quanta, x.ranAt(0), best);
        }
        EligibleDeadline close = States.joined(35, 1);
        close.run(1);
        Due.is("deadline(0), UNIT / 1260 beyond the mean", close.deadline(0), UNIT / 35 + UNIT / 1260);
        close.run(1);
        Due.is("the client that is not beyond it", close.ranAt(0), 1);
    }

    // Client 8 never asks to leave, so that there is a client all the time.
    private static void thereAlwaysIsOne() {
        EligibleDeadline x = new EligibleDeadline(32, 36, 30000);
        x.join(8, 1);
        for (int calls = 0; calls < 1000; calls++) {
            x.leave(calls % 8);
            x.join(calls % 8, 1 + calls % 9);
            Due.is("run(29), call " + calls, x.run(29), 29);
        }
    }

    private static void advanceGrows() {
        for (int weight = 1; weight <= 36; weight++) {
            EligibleDeadline x = States.joined(weight);
            x.run(1);
            Due.is("deadline(0) alone", x.deadline(0), UNIT / weight);
        }
        for (int weight = 2; weight <= 35; weight++) {
            EligibleDeadline x = States.joined(weight, 1);
            x.run(1);
            Due.is("deadline(0) of " + weight, x.deadline(0), 2 * (UNIT / weight) - UNIT / (weight + 1));
        }
    }

    private static void servedGrows() {
        EligibleDeadline x = States.joined(5);
        Due.is("served(0) before", x.served(0), 0);
        x.run(1);
        Due.is("served(0) after 1", x.served(0), 1);
        x.run(64);
        Due.is("served(0) after 65", x.served(0), 65);
    }

    private static void advancesFall() {
        for (int others = 1; others <= 31; others++) {
            EligibleDeadline x = new EligibleDeadline(32, 36, 10);
            x.join(31, 5);
            for (int client = 0; client < others; client++) {
                x.join(client, 1);
            }
            x.run(1);
            Due.is("the client that ran", x.ranAt(0), 31);
            for (int client = 0; client < others; client++) {
                Due.is("lag(" + client + ")", x.lag(client), UNIT / (5 + others));
            }
        }
    }

    private static void advanceOfTheOnlyOne() {
        EligibleDeadline x = States.joined(7);
        for (int quanta = 0; quanta < 100; quanta++) {
            x.run(1);
            Due.is("lag(0), the only one", x.lag(0), 0);
        }
    }

    private static void clockGrows() {
        EligibleDeadline x = States.joined(2, 3, 5);
        for (int quanta = 1; quanta <= 200; quanta++) {
            x.run(1);
            Due.is("clock", x.clock(), quanta);
        }
    }

    private static void logged() {
        EligibleDeadline x = States.joined(1, 3);
        int[] order = {1, 0, 1, 1};
        for (int quanta = 0; quanta < 200; quanta++) {
            x.run(1);
            Due.is("ranAt(0) after quantum " + quanta, x.ranAt(0), order[quanta % 4]);
            Due.is("ranAt(1) after quantum " + quanta, x.ranAt(1), quanta == 0 ? -1 : order[(quanta - 1) % 4]);
        }
    }

    private static void leaverGoes() {
        EligibleDeadline x = States.twoAfter(1);
        x.leave(0);
        x.run(3);
        Due.same("client 0", Snapshot.ofClient(x, 0), Snapshot.dueOfNobody(0));
        Due.is("leave(0)", x.leave(0), EligibleDeadline.ABSENT);
        Due.is("next", x.next(), 1);
        Due.is("eligible", x.eligible(), 1);
    }

    // The lag of client 0 goes from positive to negative without being 0 in between.
    private static void leaverBeyondTheMeanStays() {
        EligibleDeadline x = States.twoMarked();
        x.run(1);
        Due.same("client 0", Snapshot.ofClient(x, 0), Snapshot.due(0, 1, UNIT / 2, 1, true));
        Due.same("client 1", Snapshot.ofClient(x, 1), Snapshot.due(1, 3, -UNIT / 6, 1, true));
        Due.is("totalWeight", x.totalWeight(), 4);
    }

    // In the third quantum, which goes to 0, clients 2 and 3 come to the mean from beyond it.
    private static void leaversGoTogether() {
        EligibleDeadline x = States.joined(1, 1, 2, 2);
        x.run(2);
        x.leave(2);
        x.leave(3);
        x.run(1);
        Due.is("ranAt(0)", x.ranAt(0), 0);
        Due.same("client 2", Snapshot.ofClient(x, 2), Snapshot.dueOfNobody(2));
        Due.same("client 3", Snapshot.ofClient(x, 3), Snapshot.dueOfNobody(3));
        // Every client of a round ends it at the mean: here all go but one.
        EligibleDeadline many = new EligibleDeadline(32, 36, 100);
        for (int client = 0; client < 32; client++) {
            many.join(client, 1);
        }
        many.run(1);
        for (int client = 0; client < 31; client++) {
            many.leave(client);
        }
        many.run(31);
        Due.is("totalWeight", many.totalWeight(), 1);
        Due.is("next", many.next(), 31);
    }

    private static void weightFalls() {
        EligibleDeadline x = States.joined(1, 1, 2, 2);
        x.run(2);
        x.leave(2);
        x.leave(3);
        x.run(1);
        Due.is("totalWeight without 2 and 2", x.totalWeight(), 2);
        Due.is("join beyond the room", x.join(5, 35), EligibleDeadline.FULL);
        Due.is("join in the room", x.join(5, 34), EligibleDeadline.OK);
    }

    private static void othersKeepTheirAdvances() {
        EligibleDeadline x = States.joined(1, 1, 2, 2);
        x.run(2);
        x.leave(2);
        x.leave(3);
        x.run(1);
        Due.same("client 0", Snapshot.ofClient(x, 0), Snapshot.due(0, 1, UNIT / 2, 1, false));
        Due.same("client 1", Snapshot.ofClient(x, 1), Snapshot.due(1, 1, -UNIT / 2, 0, false));
    }

    // In the third quantum client 2 comes to the mean, and the two others are UNIT / 6 further down.
    private static void sumBeforeDepartures() {
        EligibleDeadline x = twoAndALeaver();
        Due.same("client 0 before", Snapshot.ofClient(x, 0), Snapshot.due(0, 1, UNIT / 6 * 4, 1, false));
        Due.same("client 1 before", Snapshot.ofClient(x, 1), Snapshot.due(1, 1, UNIT / 6 * -2, 0, false));
        x.run(1);
        Due.same("client 0", Snapshot.ofClient(x, 0), Snapshot.due(0, 1, UNIT / 6 * 3, 1, false));
        Due.same("client 1", Snapshot.ofClient(x, 1), Snapshot.due(1, 1, UNIT / 6 * -3, 0, false));
        Due.is("weight(2)", x.weight(2), 0);
    }

    private static void sumAfterDepartures() {
        EligibleDeadline x = twoAndALeaver();
        x.run(2);
        Due.same("client 0", Snapshot.ofClient(x, 0), Snapshot.due(0, 1, 0, 1, false));
        Due.same("client 1", Snapshot.ofClient(x, 1), Snapshot.due(1, 1, 0, 1, false));
        EligibleDeadline inOneCall = States.twoAfter(1);
        inOneCall.leave(0);
        inOneCall.run(64);
        Due.is("lag(1), alone for 61 quanta", inOneCall.lag(1), 0);
        Due.is("served(1)", inOneCall.served(1), 64);
    }

    private static void chosenLeaves() {
        EligibleDeadline x = twoAndALeaver();
        Due.is("next", x.next(), 2);
        Due.is("run(1)", x.run(1), 1);
        Due.same("client 2", Snapshot.ofClient(x, 2), Snapshot.dueOfNobody(2));
        Due.is("totalWeight", x.totalWeight(), 2);
        // Clients 2 and 3 both come to the mean in the fifth quantum, which goes to 3.
        EligibleDeadline two = States.joined(1, 1, 4, 4);
        two.run(4);
        two.leave(2);
        two.leave(3);
        Due.is("next", two.next(), 3);
        two.run(1);
        Due.same("client 2", Snapshot.ofClient(two, 2), Snapshot.dueOfNobody(2));
        Due.same("client 3", Snapshot.ofClient(two, 3), Snapshot.dueOfNobody(3));
        Due.is("totalWeight", two.totalWeight(), 2);
    }

    private static void chosenThatLeftIsLogged() {
        EligibleDeadline x = twoAndALeaver();
        x.run(1);
        Due.is("ranAt(0)", x.ranAt(0), 2);
        Due.is("clock", x.clock(), 3);
        x.run(1);
        Due.is("ranAt(1) a quantum later", x.ranAt(1), 2);
    }

    // Client 2 is about to run and to come to the mean, while 0 and 1 stay UNIT / 2 off.
    private static EligibleDeadline twoAndALeaver() {
        EligibleDeadline x = States.joined(1, 1, 4);
        x.run(2);
        x.leave(2);
        return x;
    }

    private static void unmarkedStay() {
        EligibleDeadline x = States.twoAfter(1);
        x.leave(0);
        x.run(3);
        Due.same("client 1 at advance 0", Snapshot.ofClient(x, 1), Snapshot.due(1, 3, 0, 3, false));
        EligibleDeadline round = States.joined(1, 1, 2, 2);
        round.run(6);
        Due.is("eligible, all at advance 0", round.eligible(), 4);
        Due.is("totalWeight, all at advance 0", round.totalWeight(), 6);
    }

    private static void weightsStay() {
        EligibleDeadline x = States.joined(2, 3, 5, 7);
        for (int quanta = 0; quanta < 100; quanta++) {
            x.run(1);
            Due.is("weight(0)", x.weight(0), 2);
            Due.is("weight(1)", x.weight(1), 3);
            Due.is("weight(2)", x.weight(2), 5);
            Due.is("weight(3)", x.weight(3), 7);
            Due.is("totalWeight", x.totalWeight(), 17);
        }
    }

    private static void noMarkIsSet() {
        EligibleDeadline x = States.joined(2, 3, 8);
        x.run(1);
        x.leave(1);
        for (int quanta = 2; quanta <= 100; quanta++) {
            x.run(1);
            Due.is("leaving(0)", x.leaving(0), false);
            Due.is("leaving(1)", x.leaving(1), quanta < 13);
            Due.is("leaving(2)", x.leaving(2), false);
        }
    }

    private static void othersAreNotServed() {
        EligibleDeadline x = States.joined(2, 3, 5, 7);
        int[] served = new int[4];
        for (int quanta = 0; quanta < 100; quanta++) {
            served[x.next()]++;
            x.run(1);
            for (int client = 0; client < 4; client++) {
                Due.is("served(" + client + ")", x.served(client), served[client]);
            }
        }
    }

    private static void lastLeaves() {
        EligibleDeadline x = States.twoMarked();
        Due.is("run(64)", x.run(64), 3);
        Due.is("clock", x.clock(), 4);
        Due.is("ranAt(0)", x.ranAt(0), 1);
        Due.is("ranAt(4)", x.ranAt(4), EligibleDeadline.NONE);
        Due.is("next", x.next(), EligibleDeadline.NONE);
        Due.is("totalWeight", x.totalWeight(), 0);
        EligibleDeadline exact = States.twoMarked();
        Due.is("run(3), the last goes in its last quantum", exact.run(3), 3);
        Due.is("next", exact.next(), EligibleDeadline.NONE);
    }
}
