import java.util.function.Supplier;

/** The edges that the part "Words used in the promises" names, each sentence with a test of its own. */
public final class WordsEdgesTest {
    private static final long UNIT = States.UNIT;

    public static void main(String[] args) {
        Due.sentence("Numbers: UNIT is divisible by every integer 1..36", WordsEdgesTest::unitIsDivisible);
        Due.sentence("Numbers: all divisions are exact, for every weight and sum", WordsEdgesTest::everyWeightAndSum);
        Due.sentence("Numbers: exact, however often clients come and go", WordsEdgesTest::comingAndGoing);
        Due.sentence("State: W is 0 if there are none", WordsEdgesTest::noClientsNoWeight);
        Due.sentence("State: W never exceeds weightLimit", WordsEdgesTest::weightStaysWithinTheLimit);
        Due.sentence("Derived: i is eligible exactly if advance(i) <= 0", WordsEdgesTest::eligibleAtTheMean);
        Due.sentence("Choice: among the present clients", WordsEdgesTest::onlyPresentClientsAreChosen);
        Due.sentence("Choice: with advance(i) <= x", WordsEdgesTest::anAdvanceOfTheAllowanceIsWithin);
        Due.sentence("Choice: compared as signed longs", WordsEdgesTest::comparedAsSignedLongs);
        Due.sentence("Choice: the one with the least deadline(i)", WordsEdgesTest::theLeastDeadline);
        Due.sentence("Choice: of several with that same deadline, the least name", WordsEdgesTest::theLeastNameOfATie);
        Due.sentence("Choice: NONE if no present client has advance(i) <= x", WordsEdgesTest::noChoice);
        Due.sentence("Bad client: below 0", WordsEdgesTest::badBelowZero);
        Due.sentence("Bad client: is clients or more", WordsEdgesTest::badFromClientsOn);
        Due.sentence("Bad client: no other is bad", WordsEdgesTest::firstAndLastNameAreGood);
        Due.sentence("Order of refusals: join, bad client first", WordsEdgesTest::joinBadClientFirst);
        Due.sentence("Order of refusals: join, PRESENT before BAD_WEIGHT", WordsEdgesTest::joinPresentBeforeBadWeight);
        Due.sentence("Order of refusals: join, PRESENT before FULL", WordsEdgesTest::joinPresentBeforeFull);
        Due.sentence("Order of refusals: join, BAD_WEIGHT before FULL", WordsEdgesTest::joinBadWeightBeforeFull);
        Due.sentence("Order of refusals: reweigh, bad client first", WordsEdgesTest::reweighBadClientFirst);
        Due.sentence("Order of refusals: reweigh, ABSENT before BAD_WEIGHT", WordsEdgesTest::reweighAbsentBeforeBadWeight);
        Due.sentence("Order of refusals: reweigh, ABSENT before FULL", WordsEdgesTest::reweighAbsentBeforeFull);
        Due.sentence("Order of refusals: reweigh, BAD_WEIGHT before LAGGING", WordsEdgesTest::reweighBadWeightBeforeLagging);
        Due.sentence("Order of refusals: reweigh, BAD_WEIGHT before FULL", WordsEdgesTest::reweighBadWeightBeforeFull);
        Due.sentence("Order of refusals: reweigh, LAGGING before FULL", WordsEdgesTest::reweighLaggingBeforeFull);
        Due.sentence("Order of refusals: a call so refused changes nothing", WordsEdgesTest::refusedCallsChangeNothing);
        Due.end();
    }

    private static void unitIsDivisible() {
        for (int divisor = 1; divisor <= 36; divisor++) {
            Due.is("UNIT modulo " + divisor, EligibleDeadline.UNIT % divisor, 0);
        }
    }

    // After t quanta a client of weight w has had its due of w * t / W of them, but for its lag.
    private static void everyWeightAndSum() {
        for (int sum = 2; sum <= 36; sum++) {
            for (int weight = 1; weight < sum; weight++) {
                EligibleDeadline x = States.joined(weight, sum - weight);
                for (int quanta = 1; quanta <= sum; quanta++) {
                    x.run(1);
                    String when = " of weight " + weight + " of " + sum + " after " + quanta;
                    Due.is("lag(0)" + when, x.lag(0), UNIT / sum * weight * quanta - UNIT * x.served(0));
                    Due.is("lag(1)" + when, x.lag(1), -x.lag(0));
                }
                Due.is("lag(0) after a whole round", x.lag(0), 0);
                Due.is("served(0) after a whole round", x.served(0), weight);
            }
        }
    }

    private static void comingAndGoing() {
        EligibleDeadline x = new EligibleDeadline(32, 36, 30000);
        x.join(0, 1);
        for (int round = 0; round < 3000; round++) {
            int client = 1 + round % 7;
            x.leave(client);
            x.join(client, 1 + round % 5);
            x.run(1 + round % 3);
            long sum = 0;
            for (int each = 0; each < 8; each++) {
                sum += x.weight(each) > 0 ? x.lag(each) : 0;
            }
            Due.is("the sum of all lags after " + x.clock() + " quanta", sum, 0);
        }
    }

    private static void noClientsNoWeight() {
        Due.is("totalWeight at the start", States.empty().totalWeight(), 0);
        Due.is("totalWeight when all have gone", States.allGone().totalWeight(), 0);
        Due.is("totalWeight when all have left", States.emptyAtHorizon().totalWeight(), 0);
    }

    private static void weightStaysWithinTheLimit() {
        for (int limit = 1; limit <= 36; limit++) {
            EligibleDeadline x = new EligibleDeadline(32, limit, 10);
            for (int client = 0; client < 32; client++) {
                x.join(client, limit / 2 + 1);
                x.join(client, 1);
                x.reweigh(client, 2);
                Due.is("totalWeight within " + limit, x.totalWeight() <= limit, true);
            }
        }
    }

    private static void eligibleAtTheMean() {
        EligibleDeadline x = States.joined(1, 3);
        Due.is("eligible at advance 0", x.eligible(), 2);
        x.run(1);
        Due.is("eligible, one beyond the mean", x.eligible(), 1);
        Due.is("next, one beyond the mean", x.next(), 0);
        x.run(3);
        Due.is("eligible, both at advance 0 again", x.eligible(), 2);
    }

    private static void onlyPresentClientsAreChosen() {
        EligibleDeadline x = States.empty();
        x.join(3, 1);
        Due.is("next beside absent clients", x.next(), 3);
        x.join(1, 9);
        Due.is("next, 1 present", x.next(), 1);
        x.leave(1);
        Due.is("next, 1 gone", x.next(), 3);
        Due.is("bestWithin(MAX), 1 gone", x.bestWithin(Long.MAX_VALUE), 3);
    }

    private static void anAdvanceOfTheAllowanceIsWithin() {
        EligibleDeadline x = States.twoAfter(1);
        Due.is("best at the advance of 1", x.bestWithin(UNIT / 12), 1);
        Due.is("best a part below the advance of 1", x.bestWithin(UNIT / 12 - 1), 0);
        Due.is("best a part above the advance of 1", x.bestWithin(UNIT / 12 + 1), 1);
        Due.is("best at the advance of 0", x.bestWithin(-UNIT / 4), 0);
        Due.is("best a part below the advance of 0", x.bestWithin(-UNIT / 4 - 1), EligibleDeadline.NONE);
        Due.is("best a part above the advance of 0", x.bestWithin(-UNIT / 4 + 1), 0);
    }

    private static void comparedAsSignedLongs() {
        EligibleDeadline x = States.twoAfter(1);
        Due.is("a positive advance against -1", x.bestWithin(-1), 0);
        Due.is("a negative advance against 1", x.bestWithin(1), 0);
        Due.is("both against the least long", x.bestWithin(Long.MIN_VALUE), EligibleDeadline.NONE);
        Due.is("both against the greatest long", x.bestWithin(Long.MAX_VALUE), 1);
        Due.is("both against 2 to the 32nd", x.bestWithin(1L << 32), 0);
        Due.is("both against -(2 to the 32nd)", x.bestWithin(-(1L << 32)), 0);
        Due.is("both against 2 to the 62nd", x.bestWithin(1L << 62), 1);
        Due.is("both against -(2 to the 62nd)", x.bestWithin(-(1L << 62)), EligibleDeadline.NONE);
    }

    private static void theLeastDeadline() {
        EligibleDeadline x = States.twoAfter(1);
        x.join(2, 5);
        Due.is("the deadline UNIT / 5 of 2 at advance 0, before 0 further behind", x.next(), 2);
        Due.is("the same with 1 allowed too", x.bestWithin(Long.MAX_VALUE), 2);
        x.leave(2);
        Due.is("the deadline of 1 is less, but it is not allowed", x.next(), 0);
        Due.is("the deadline of 1 is less, and it is allowed", x.bestWithin(UNIT), 1);
    }

    private static void theLeastNameOfATie() {
        EligibleDeadline equal = States.empty();
        equal.join(6, 4);
        equal.join(2, 4);
        equal.join(7, 4);
        Due.is("the least name, joined second", equal.next(), 2);
        Due.is("the least name within MAX", equal.bestWithin(Long.MAX_VALUE), 2);
        // The light one is behind by UNIT / 2 and the heavy one at the mean: both are due at UNIT / 2.
        EligibleDeadline lightFirst = States.joined(1, 1, 2);
        lightFirst.run(2);
        Due.is("deadline of the light one", lightFirst.deadline(1), UNIT / 2);
        Due.is("deadline of the heavy one", lightFirst.deadline(2), UNIT / 2);
        Due.is("the light one has the least name", lightFirst.next(), 1);
        EligibleDeadline heavyFirst = States.joined(2, 1, 1);
        heavyFirst.run(2);
        Due.is("deadline of the heavy one", heavyFirst.deadline(0), UNIT / 2);
        Due.is("deadline of the light one", heavyFirst.deadline(2), UNIT / 2);
        Due.is("the heavy one has the least name", heavyFirst.next(), 0);
    }

    private static void noChoice() {
        Due.is("no client at all", States.empty().bestWithin(Long.MAX_VALUE), EligibleDeadline.NONE);
        Due.is("all gone", States.allGone().bestWithin(Long.MAX_VALUE), EligibleDeadline.NONE);
        Due.is("all at 0 against -1", States.joined(1, 3).bestWithin(-1), EligibleDeadline.NONE);
        Due.is("all above", States.twoAfter(1).bestWithin(-UNIT), EligibleDeadline.NONE);
    }

    private static void badBelowZero() {
        int[] below = {Integer.MIN_VALUE, Integer.MIN_VALUE + 1, -32, -2, -1};
        for (int clients = 1; clients <= 32; clients++) {
            for (int bad : below) {
                isBad(oneClientPresent(clients), bad);
            }
        }
    }

    private static void badFromClientsOn() {
        for (int clients = 1; clients <= 32; clients++) {
            for (int bad = clients; bad <= 40; bad++) {
                isBad(oneClientPresent(clients), bad);
            }
            isBad(oneClientPresent(clients), 256);
            isBad(oneClientPresent(clients), 65536 + clients - 1);
            isBad(oneClientPresent(clients), Integer.MAX_VALUE);
        }
    }

    private static Supplier<EligibleDeadline> oneClientPresent(int clients) {
        return () -> {
            EligibleDeadline x = new EligibleDeadline(clients, 36, 10);
            x.join(0, 3);
            return x;
        };
    }

    private static void isBad(Supplier<EligibleDeadline> maker, int client) {
        EligibleDeadline x = maker.get();
        Due.is("join(" + client + ", 1)", x.join(client, 1), EligibleDeadline.BAD_CLIENT);
        Due.is("leave(" + client + ")", x.leave(client), EligibleDeadline.BAD_CLIENT);
        Due.is("stay(" + client + ")", x.stay(client), EligibleDeadline.BAD_CLIENT);
        Due.is("reweigh(" + client + ", 1)", x.reweigh(client, 1), EligibleDeadline.BAD_CLIENT);
        Due.same("the bad client", Snapshot.ofClient(x, client), Snapshot.dueOfNobody(client));
    }

    private static void firstAndLastNameAreGood() {
        for (int clients = 1; clients <= 32; clients++) {
            EligibleDeadline x = new EligibleDeadline(clients, 36, 10);
            for (int client = 0; client < clients; client += clients > 1 ? clients - 1 : 1) {
                Due.is("leave(" + client + ") of " + clients, x.leave(client), EligibleDeadline.ABSENT);
                Due.is("stay(" + client + ") of " + clients, x.stay(client), EligibleDeadline.ABSENT);
                Due.is("reweigh(" + client + ", 1) of " + clients, x.reweigh(client, 1), EligibleDeadline.ABSENT);
                Due.is("join(" + client + ", 4) of " + clients, x.join(client, 4), EligibleDeadline.OK);
                Due.same("client", Snapshot.ofClient(x, client), Snapshot.due(client, 4, 0, 0, false));
                Due.is("reweigh(" + client + ", 5) of " + clients, x.reweigh(client, 5), EligibleDeadline.OK);
                Due.is("stay(" + client + ") of " + clients, x.stay(client), EligibleDeadline.NOT_LEAVING);
                Due.is("leave(" + client + ") of " + clients, x.leave(client), EligibleDeadline.OK);
            }
        }
    }

    private static void joinBadClientFirst() {
        for (int bad : States.BAD_CLIENTS) {
            for (int badWeight : States.BAD_WEIGHTS) {
                Due.is("bad client, bad weight", States.twoAfter(1).join(bad, badWeight), EligibleDeadline.BAD_CLIENT);
            }
            Due.is("bad client, too much", States.allWeightTaken().join(bad, 1), EligibleDeadline.BAD_CLIENT);
        }
    }

    private static void joinPresentBeforeBadWeight() {
        for (int badWeight : States.BAD_WEIGHTS) {
            Due.is("present, bad weight", States.twoAfter(1).join(1, badWeight), EligibleDeadline.PRESENT);
            Due.is("marked, bad weight", States.twoMarked().join(1, badWeight), EligibleDeadline.PRESENT);
        }
    }

    private static void joinPresentBeforeFull() {
        Due.is("present, too much", States.twoAfter(1).join(1, 36), EligibleDeadline.PRESENT);
        Due.is("marked, too much", States.twoMarked().join(1, 36), EligibleDeadline.PRESENT);
        Due.is("present, nothing left", States.allWeightTaken().join(2, 1), EligibleDeadline.PRESENT);
    }

    private static void joinBadWeightBeforeFull() {
        for (int badWeight : States.BAD_WEIGHTS) {
            int answer = States.allWeightTaken().join(States.ABSENT_CLIENT, badWeight);
            Due.is("weight " + badWeight + " with nothing left", answer, EligibleDeadline.BAD_WEIGHT);
        }
    }

    private static void reweighBadClientFirst() {
        for (int bad : States.BAD_CLIENTS) {
            for (int badWeight : States.BAD_WEIGHTS) {
                Due.is("bad client, bad weight", States.twoAfter(1).reweigh(bad, badWeight), EligibleDeadline.BAD_CLIENT);
            }
            Due.is("bad client, too much", States.allWeightTaken().reweigh(bad, 36), EligibleDeadline.BAD_CLIENT);
        }
    }

    private static void reweighAbsentBeforeBadWeight() {
        for (int badWeight : States.BAD_WEIGHTS) {
            Due.is("never present", States.twoAfter(1).reweigh(5, badWeight), EligibleDeadline.ABSENT);
            Due.is("gone", States.allGone().reweigh(0, badWeight), EligibleDeadline.ABSENT);
        }
    }

    private static void reweighAbsentBeforeFull() {
        Due.is("absent, too much", States.twoAfter(1).reweigh(5, 36), EligibleDeadline.ABSENT);
        Due.is("absent, nothing left", States.allWeightTaken().reweigh(5, 1), EligibleDeadline.ABSENT);
    }

    private static void reweighBadWeightBeforeLagging() {
        for (int badWeight : States.BAD_WEIGHTS) {
            Due.is("behind the mean", States.twoAfter(1).reweigh(0, badWeight), EligibleDeadline.BAD_WEIGHT);
            Due.is("beyond the mean", States.twoAfter(1).reweigh(1, badWeight), EligibleDeadline.BAD_WEIGHT);
            Due.is("marked", States.twoMarked().reweigh(1, badWeight), EligibleDeadline.BAD_WEIGHT);
        }
    }

    private static void reweighBadWeightBeforeFull() {
        for (int badWeight : States.BAD_WEIGHTS) {
            Due.is("nothing left", States.allWeightTaken().reweigh(2, badWeight), EligibleDeadline.BAD_WEIGHT);
        }
    }

    private static void reweighLaggingBeforeFull() {
        Due.is("behind the mean, too much", States.twoAfter(1).reweigh(0, 36), EligibleDeadline.LAGGING);
        Due.is("beyond the mean, too much", States.allWeightTaken().reweigh(1, 4), EligibleDeadline.LAGGING);
    }

    private static void refusedCallsChangeNothing() {
        for (int bad : States.BAD_CLIENTS) {
            Unchanged.inEveryState("join(" + bad + ", 1)", x -> x.join(bad, 1));
            Unchanged.inEveryState("leave(" + bad + ")", x -> x.leave(bad));
            Unchanged.inEveryState("stay(" + bad + ")", x -> x.stay(bad));
            Unchanged.inEveryState("reweigh(" + bad + ", 1)", x -> x.reweigh(bad, 1));
        }
        for (int badWeight : States.BAD_WEIGHTS) {
            for (int client = 0; client < States.CLIENTS; client++) {
                int name = client;
                Unchanged.inEveryState("join(" + name + ", " + badWeight + ")", x -> x.join(name, badWeight));
                Unchanged.inEveryState("reweigh(" + name + ", " + badWeight + ")", x -> x.reweigh(name, badWeight));
            }
        }
        Unchanged.by("join of the present", States::allWeightTaken, x -> x.join(0, 1));
        Unchanged.by("join of the marked", States::twoMarked, x -> x.join(0, 1));
        Unchanged.by("join with nothing left", States::allWeightTaken, x -> x.join(5, 1));
        Unchanged.by("leave of the absent", States::allGone, x -> x.leave(0));
        Unchanged.by("leave of the marked", States::twoMarked, x -> x.leave(0));
        Unchanged.by("stay of the absent", States::allGone, x -> x.stay(0));
        Unchanged.by("stay of the unmarked", States::allWeightTaken, x -> x.stay(0));
        Unchanged.by("reweigh of the absent", States::allGone, x -> x.reweigh(0, 1));
        Unchanged.by("reweigh of the lagging", () -> States.twoAfter(1), x -> x.reweigh(0, 2));
        Unchanged.by("reweigh with nothing left", States::allWeightTaken, x -> x.reweigh(2, 33));
    }
}
