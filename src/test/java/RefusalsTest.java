import java.util.function.Supplier;

/** Of "Words used in the promises": bad clients and the order of refusals, each sentence with a test of its own. */
public final class RefusalsTest {
    public static void main(String[] args) {
        Due.sentence("Bad client: below 0", RefusalsTest::badBelowZero);
        Due.sentence("Bad client: is clients or more", RefusalsTest::badFromClientsOn);
        Due.sentence("Bad client: no other is bad", RefusalsTest::firstAndLastNameAreGood);
        Due.sentence("Order of refusals: join, bad client first", RefusalsTest::joinBadClientFirst);
        Due.sentence("Order of refusals: join, PRESENT before BAD_WEIGHT", RefusalsTest::joinPresentBeforeBadWeight);
        Due.sentence("Order of refusals: join, PRESENT before FULL", RefusalsTest::joinPresentBeforeFull);
        Due.sentence("Order of refusals: join, BAD_WEIGHT before FULL", RefusalsTest::joinBadWeightBeforeFull);
        Due.sentence("Order of refusals: reweigh, bad client first", RefusalsTest::reweighBadClientFirst);
        Due.sentence("Order of refusals: reweigh, ABSENT before BAD_WEIGHT", RefusalsTest::reweighAbsentBeforeBadWeight);
        Due.sentence("Order of refusals: reweigh, ABSENT before FULL", RefusalsTest::reweighAbsentBeforeFull);
        Due.sentence("Order of refusals: reweigh, BAD_WEIGHT before LAGGING", RefusalsTest::reweighBadWeightBeforeLagging);
        Due.sentence("Order of refusals: reweigh, BAD_WEIGHT before FULL", RefusalsTest::reweighBadWeightBeforeFull);
        Due.sentence("Order of refusals: reweigh, LAGGING before FULL", RefusalsTest::reweighLaggingBeforeFull);
        Due.sentence("Order of refusals: a call so refused changes nothing", RefusalsTest::refusedCallsChangeNothing);
        Due.end();
    }

    private static void badBelowZero() {
        int[] below = {Integer.MIN_VALUE, Integer.MIN_VALUE + 1, -32, -2, -1};
        for (int clients = 1; clients <= 32; clients++) {
            for (int bad : below) {
                isBad(oneClientPresent(clients), bad);
            }
        }
    }

    private static void badFromClientsOn() {
        for (int clients = 1; clients <= 32; clients++) {
            for (int bad = clients; bad <= 40; bad++) {
                isBad(oneClientPresent(clients), bad);
            }
            isBad(oneClientPresent(clients), 256);
            isBad(oneClientPresent(clients), 65536 + clients - 1);
            isBad(oneClientPresent(clients), Integer.MAX_VALUE);
        }
    }

    private static Supplier<EligibleDeadline> oneClientPresent(int clients) {
        return () -> {
            EligibleDeadline x = new EligibleDeadline(clients, 36, 10);
            x.join(0, 3);
            return x;
        };
    }

    private static void isBad(Supplier<EligibleDeadline> maker, int client) {
        EligibleDeadline x = maker.get();
        Due.is("join(" + client + ", 1)", x.join(client, 1), EligibleDeadline.BAD_CLIENT);
        Due.is("leave(" + client + ")", x.leave(client), EligibleDeadline.BAD_CLIENT);
        Due.is("stay(" + client + ")", x.stay(client), EligibleDeadline.BAD_CLIENT);
        Due.is("reweigh(" + client + ", 1)", x.reweigh(client, 1), EligibleDeadline.BAD_CLIENT);
        Due.same("the bad client", Snapshot.ofClient(x, client), Snapshot.dueOfNobody(client));
    }

    private static void firstAndLastNameAreGood() {
        for (int clients = 1; clients <= 32; clients++) {
            EligibleDeadline x = new EligibleDeadline(clients, 36, 10);
            for (int client = 0; client < clients; client += clients > 1 ? clients - 1 : 1) {
                Due.is("leave(" + client + ") of " + clients, x.leave(client), EligibleDeadline.ABSENT);
                Due.is("stay(" + client + ") of " + clients, x.stay(client), EligibleDeadline.ABSENT);
                Due.is("reweigh(" + client + ", 1) of " + clients, x.reweigh(client, 1), EligibleDeadline.ABSENT);
                Due.is("join(" + client + ", 4) of " + clients, x.join(client, 4), EligibleDeadline.OK);
                Due.same("client", Snapshot.ofClient(x, client), Snapshot.due(client, 4, 0, 0, false));
                Due.is("reweigh(" + client + ", 5) of " + clients, x.reweigh(client, 5), EligibleDeadline.OK);
                Due.is("stay(" + client + ") of " + clients, x.stay(client), EligibleDeadline.NOT_LEAVING);
                Due.is("leave(" + client + ") of " + clients, x.leave(client), EligibleDeadline.OK);
            }
        }
    }

    private static void joinBadClientFirst() {
        for (int bad : States.BAD_CLIENTS) {
            for (int badWeight : States.BAD_WEIGHTS) {
                Due.is("bad client, bad weight", States.twoAfter(1).join(bad, badWeight), EligibleDeadline.BAD_CLIENT);
            }
            Due.is("bad client, too much", States.allWeightTaken().join(bad, 1), EligibleDeadline.BAD_CLIENT);
        }
    }

    private static void joinPresentBeforeBadWeight() {
        for (int badWeight : States.BAD_WEIGHTS) {
            Due.is("present, bad weight", States.twoAfter(1).join(1, badWeight), EligibleDeadline.PRESENT);
            Due.is("marked, bad weight", States.twoMarked().join(1, badWeight), EligibleDeadline.PRESENT);
        }
    }

    private static void joinPresentBeforeFull() {
        Due.is("present, too much", States.twoAfter(1).join(1, 36), EligibleDeadline.PRESENT);
        Due.is("marked, too much", States.twoMarked().join(1, 36), EligibleDeadline.PRESENT);
        Due.is("present, nothing left", States.allWeightTaken().join(2, 1), EligibleDeadline.PRESENT);
    }

    private static void joinBadWeightBeforeFull() {
        for (int badWeight : States.BAD_WEIGHTS) {
            int answer = States.allWeightTaken().join(States.ABSENT_CLIENT, badWeight);
            Due.is("weight " + badWeight + " with nothing left", answer, EligibleDeadline.BAD_WEIGHT);
        }
    }

    private static void reweighBadClientFirst() {
        for (int bad : States.BAD_CLIENTS) {
            for (int badWeight : States.BAD_WEIGHTS) {
                Due.is("bad client, bad weight", States.twoAfter(1).reweigh(bad, badWeight), EligibleDeadline.BAD_CLIENT);
            }
            Due.is("bad client, too much", States.allWeightTaken().reweigh(bad, 36), EligibleDeadline.BAD_CLIENT);
        }
    }

    private static void reweighAbsentBeforeBadWeight() {
        for (int badWeight : States.BAD_WEIGHTS) {
            Due.is("never present", States.twoAfter(1).reweigh(5, badWeight), EligibleDeadline.ABSENT);
            Due.is("gone", States.allGone().reweigh(0, badWeight), EligibleDeadline.ABSENT);
        }
    }

    private static void reweighAbsentBeforeFull() {
        Due.is("absent, too much", States.twoAfter(1).reweigh(5, 36), EligibleDeadline.ABSENT);
        Due.is("absent, nothing left", States.allWeightTaken().reweigh(5, 1), EligibleDeadline.ABSENT);
    }

    private static void reweighBadWeightBeforeLagging() {
        for (int badWeight : States.BAD_WEIGHTS) {
            Due.is("behind the mean", States.twoAfter(1).reweigh(0, badWeight), EligibleDeadline.BAD_WEIGHT);
            Due.is("beyond the mean", States.twoAfter(1).reweigh(1, badWeight), EligibleDeadline.BAD_WEIGHT);
            Due.is("marked", States.twoMarked().reweigh(1, badWeight), EligibleDeadline.BAD_WEIGHT);
        }
    }

    private static void reweighBadWeightBeforeFull() {
        for (int badWeight : States.BAD_WEIGHTS) {
            Due.is("nothing left", States.allWeightTaken().reweigh(2, badWeight), EligibleDeadline.BAD_WEIGHT);
        }
    }

    private static void reweighLaggingBeforeFull() {
        Due.is("behind the mean, too much", States.twoAfter(1).reweigh(0, 36), EligibleDeadline.LAGGING);
        Due.is("beyond the mean, too much", States.allWeightTaken().reweigh(1, 4), EligibleDeadline.LAGGING);
    }

    private static void refusedCallsChangeNothing() {
        for (int bad : States.BAD_CLIENTS) {
            Unchanged.inEveryState("join(" + bad + ", 1)", x -> x.join(bad, 1));
            Unchanged.inEveryState("leave(" + bad + ")", x -> x.leave(bad));
            Unchanged.inEveryState("stay(" + bad + ")", x -> x.stay(bad));
            Unchanged.inEveryState("reweigh(" + bad + ", 1)", x -> x.reweigh(bad, 1));
        }
        for (int badWeight : States.BAD_WEIGHTS) {
            for (int client = 0; client < States.CLIENTS; client++) {
                int name = client;
                Unchanged.inEveryState("join(" + name + ", " + badWeight + ")", x -> x.join(name, badWeight));
                Unchanged.inEveryState("reweigh(" + name + ", " + badWeight + ")", x -> x.reweigh(name, badWeight));
            }
        }
        Unchanged.by("join of the present", States::allWeightTaken, x -> x.join(0, 1));
        Unchanged.by("join of the marked", States::twoMarked, x -> x.join(0, 1));
        Unchanged.by("join with nothing left", States::allWeightTaken, x -> x.join(5, 1));
        Unchanged.by("leave of the absent", States::allGone, x -> x.leave(0));
        Unchanged.by("leave of the marked", States::twoMarked, x -> x.leave(0));
        Unchanged.by("stay of the absent", States::allGone, x -> x.stay(0));
        Unchanged.by("stay of the unmarked", States::allWeightTaken, x -> x.stay(0));
        Unchanged.by("reweigh of the absent", States::allGone, x -> x.reweigh(0, 1));
        Unchanged.by("reweigh of the lagging", () -> States.twoAfter(1), x -> x.reweigh(0, 2));
        Unchanged.by("reweigh with nothing left", States::allWeightTaken, x -> x.reweigh(2, 33));
    }
}
