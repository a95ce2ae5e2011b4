import java.math.BigInteger;

/** The part "Words used in the promises" up to the choice, each sentence with a test of its own. */
public final class WordsTest {
    private static final long UNIT = States.UNIT;

    public static void main(String[] args) {
        Due.sentence("Numbers: UNIT is divisible by every integer 1..36", WordsTest::unitIsDivisible);
        Due.sentence("Numbers: virtual times are counted in parts, UNIT to a unit", WordsTest::virtualTimesInParts);
        Due.sentence("Numbers: lags are counted in parts, UNIT to a quantum", WordsTest::lagsInParts);
        Due.sentence("Numbers: all divisions are exact, for every weight and sum", WordsTest::everyWeightAndSum);
        Due.sentence("Numbers: exact, however often clients come and go", WordsTest::comingAndGoing);
        Due.sentence("State: clients are named 0 .. clients-1", WordsTest::everyNameIsAClient);
        Due.sentence("State: each is absent or present", WordsTest::absentOrPresent);
        Due.sentence("State: weight(i) is 1 .. weightLimit", WordsTest::weightsWithinTheLimit);
        Due.sentence("State: advance(i) is the virtual time minus the weighted mean", WordsTest::advanceFromTheMean);
        Due.sentence("State: served(i), the quanta it was given since it last joined", WordsTest::servedSinceItLastJoined);
        Due.sentence("State: leaving(i) says that it has asked to leave", WordsTest::markedByAsking);
        Due.sentence("State: leaving(i) says that it waits for lag zero", WordsTest::markedOnlyOffLagZero);
        Due.sentence("State: nothing of an absent client is kept", WordsTest::nothingOfTheAbsentIsKept);
        Due.sentence("State: W is the sum of the weights of all present clients", WordsTest::sumOfTheWeights);
        Due.sentence("State: W is 0 if there are none", WordsTest::noClientsNoWeight);
        Due.sentence("State: W never exceeds weightLimit", WordsTest::weightStaysWithinTheLimit);
        Due.sentence("State: the clock is the number of quanta given", WordsTest::clockCountsQuanta);
        Due.sentence("State: the log holds each of the last 64 quanta, or of all, if fewer", WordsTest::logOfTheLast64);
        Due.sentence("Derived: step(i) = UNIT / weight(i)", WordsTest::stepOfEachWeight);
        Due.sentence("Derived: lag(i) = -(weight(i) * advance(i))", WordsTest::lagFromTheAdvance);
        Due.sentence("Derived: deadline(i) = advance(i) + step(i)", WordsTest::deadlineFromTheAdvance);
        Due.sentence("Derived: i is eligible exactly if advance(i) <= 0", WordsTest::eligibleAtTheMean);
        Due.sentence("Choice: among the present clients", WordsTest::onlyPresentClientsAreChosen);
        Due.sentence("Choice: with advance(i) <= x", WordsTest::anAdvanceOfTheAllowanceIsWithin);
        Due.sentence("Choice: compared as signed longs", WordsTest::comparedAsSignedLongs);
        Due.sentence("Choice: the one with the least deadline(i)", WordsTest::theLeastDeadline);
        Due.sentence("Choice: of several with that same deadline, the least name", WordsTest::theLeastNameOfATie);
        Due.sentence("Choice: NONE if no present client has advance(i) <= x", WordsTest::noChoice);
        Due.end();
    }

    private static void unitIsDivisible() {
        for (int divisor = 1; divisor <= 36; divisor++) {
            Due.is("UNIT modulo " + divisor, EligibleDeadline.UNIT % divisor, 0);
        }
    }

    // The clock of a client of weight w goes UNIT / w further with each quantum that it is given.
    private static void virtualTimesInParts() {
        for (int weight = 1; weight <= 18; weight++) {
            EligibleDeadline x = States.joined(weight, weight);
            x.run(1);
            Due.is("the parts between two of weight " + weight, x.deadline(0) - x.deadline(1), UNIT / weight);
            Due.is("the parts of w such ways", weight * (x.deadline(0) - x.deadline(1)), UNIT);
        }
    }

    private static void lagsInParts() {
        int[] weights = {2, 3, 5, 7};
        EligibleDeadline x = States.joined(weights);
        for (int quanta = 1; quanta <= 100; quanta++) {
            x.run(1);
            for (int client = 0; client < 4; client++) {
                long due = UNIT / 17 * (weights[client] * quanta - 17L * x.served(client));
                Due.is("lag(" + client + ") after " + quanta, x.lag(client), due);
            }
        }
    }

    // After t quanta a client of weight w has had its due of w * t / W of them, but for its lag.
    private static void everyWeightAndSum() {
        for (int sum = 2; sum <= 36; sum++) {
            for (int weight = 1; weight < sum; weight++) {
                EligibleDeadline x = States.joined(weight, sum - weight);
                for (int quanta = 1; quanta <= sum; quanta++) {
                    x.run(1);
                    String when = " of weight " + weight + " of " + sum + " after " + quanta;
                    Due.is("lag(0)" + when, x.lag(0), UNIT / sum * weight * quanta - UNIT * x.served(0));
                    Due.is("lag(1)" + when, x.lag(1), -x.lag(0));
                }
                Due.is("lag(0) after a whole round", x.lag(0), 0);
                Due.is("served(0) after a whole round", x.served(0), weight);
            }
        }
    }

    private static void comingAndGoing() {
        EligibleDeadline x = new EligibleDeadline(32, 36, 30000);
        x.join(0, 1);
        for (int round = 0; round < 3000; round++) {
            int client = 1 + round % 7;
            x.leave(client);
            x.join(client, 1 + round % 5);
            x.run(1 + round % 3);
            long sum = 0;
            for (int each = 0; each < 8; each++) {
                sum += x.weight(each) > 0 ? x.lag(each) : 0;
            }
            Due.is("the sum of all lags after " + x.clock() + " quanta", sum, 0);
        }
    }

    private static void everyNameIsAClient() {
        for (int clients = 1; clients <= 32; clients++) {
            for (int name = 0; name < clients; name++) {
                EligibleDeadline x = new EligibleDeadline(clients, 36, 10);
                Due.is("join(" + name + ", 5) of " + clients, x.join(name, 5), EligibleDeadline.OK);
                for (int other = 0; other < clients; other++) {
                    Due.is("weight(" + other + ")", x.weight(other), other == name ? 5 : 0);
                }
                x.run(1);
                Due.is("ranAt(0)", x.ranAt(0), name);
            }
        }
    }

    private static void absentOrPresent() {
        Mixed.inEachState((when, maker) -> {
            for (int client = 0; client < States.CLIENTS; client++) {
                EligibleDeadline x = maker.get();
                boolean absent = Snapshot.ofClient(x, client).equals(Snapshot.dueOfNobody(client));
                Due.is("weight(" + client + ") is 0" + when, x.weight(client) == 0, absent);
                Due.is("served(" + client + ") is no count" + when, x.served(client) < 0, absent);
                Due.is("join is not PRESENT" + when, x.join(client, 1) != EligibleDeadline.PRESENT, absent);
                boolean refused = maker.get().leave(client) == EligibleDeadline.ABSENT;
                Due.is("leave is ABSENT" + when, refused, absent);
            }
        });
    }

    private static void weightsWithinTheLimit() {
        for (int limit = 1; limit <= 36; limit++) {
            for (int weight = -1; weight <= 38; weight++) {
                EligibleDeadline joined = new EligibleDeadline(1, limit, 10);
                joined.join(0, weight);
                boolean within = weight >= 1 && weight <= limit;
                Due.is("weight(0) after join", joined.weight(0), within ? weight : 0);
                EligibleDeadline reweighed = new EligibleDeadline(1, limit, 10);
                reweighed.join(0, 1);
                reweighed.reweigh(0, weight);
                Due.is("weight(0) after reweigh", reweighed.weight(0), within ? weight : 1);
            }
        }
    }

    // Client 3 joins when the three others are 7 quanta on, at the mean of their virtual times.
    private static void advanceFromTheMean() {
        int[] weights = {2, 3, 5, 4};
        EligibleDeadline x = States.joined(2, 3, 5);
        long[] virtualTimes = new long[4];
        for (int quanta = 1; quanta <= 100; quanta++) {
            x.run(1);
            int ran = x.ranAt(0);
            virtualTimes[ran] += UNIT / weights[ran];
            if (quanta == 7) {
                virtualTimes[3] = mean(virtualTimes, weights, 3);
                x.join(3, 4);
            }
            int clients = quanta < 7 ? 3 : 4;
            for (int client = 0; client < clients; client++) {
                long advance = virtualTimes[client] - mean(virtualTimes, weights, clients);
                Due.same("client after " + quanta, Snapshot.ofClient(x, client),
                    Snapshot.due(client, weights[client], advance, x.served(client), false));
            }
        }
    }

    private static long mean(long[] virtualTimes, int[] weights, int clients) {
        BigInteger weighted = BigInteger.ZERO;
        int sum = 0;
        for (int client = 0; client < clients; client++) {
            BigInteger time = BigInteger.valueOf(virtualTimes[client]);
            weighted = weighted.add(time.multiply(BigInteger.valueOf(weights[client])));
            sum += weights[client];
        }
        return weighted.divide(BigInteger.valueOf(sum)).longValueExact();
    }

    private static void servedSinceItLastJoined() {
        EligibleDeadline x = States.joined(1, 3);
        for (int round = 0; round < 20; round++) {
            int since = 0;
            for (int quanta = 0; quanta < 4; quanta++) {
                x.run(1);
                since += x.ranAt(0) == 1 ? 1 : 0;
                Due.is("served(1) in round " + round, x.served(1), since);
            }
            Due.is("served(0) over all rounds", x.served(0), round + 1);
            x.leave(1);
            x.join(1, 3);
        }
    }

    private static void markedByAsking() {
        Mixed.inEachState((when, maker) -> {
            for (int client = 0; client < States.CLIENTS; client++) {
                EligibleDeadline x = maker.get();
                boolean before = x.leaving(client);
                boolean kept = x.leave(client) == EligibleDeadline.DEFERRED;
                Due.is("leaving(" + client + ")" + when, x.leaving(client), before || kept);
                x.stay(client);
                Due.is("leaving(" + client + ") after stay" + when, x.leaving(client), false);
            }
        });
    }

    private static void markedOnlyOffLagZero() {
        Mixed.ofEachPresent((x, client, when) ->
            Due.is("marked at lag zero, client " + client + when, x.leaving(client) && x.lag(client) == 0, false));
        EligibleDeadline x = States.twoAfter(1);
        x.leave(0);
        for (int quanta = 2; quanta <= 20; quanta++) {
            x.run(1);
            Due.is("leaving(0) after " + quanta, x.leaving(0), quanta < 4);
        }
    }

    private static void nothingOfTheAbsentIsKept() {
        Unchanged.inEveryState("join(5, 1) and leave(5)", x -> {
            x.join(5, 1);
            x.leave(5);
        });
        EligibleDeadline first = new EligibleDeadline(2, 36, 1000);
        EligibleDeadline again = new EligibleDeadline(2, 36, 1000);
        again.join(0, 1);
        again.join(1, 3);
        again.run(1);
        again.leave(0);
        again.leave(1);
        again.run(3);
        for (int quanta = 0; quanta < 30; quanta++) {
            first.join(quanta % 2, 2);
            again.join(quanta % 2, 2);
            first.run(1);
            again.run(1);
            for (int client = 0; client < 2; client++) {
                Due.same("a client that was present earlier", Snapshot.ofClient(again, client), Snapshot.ofClient(first, client));
            }
        }
    }

    private static void sumOfTheWeights() {
        Mixed.inEachState((when, maker) -> {
            EligibleDeadline x = maker.get();
            int sum = 0;
            for (int client = 0; client < States.CLIENTS; client++) {
                sum += x.weight(client);
            }
            Due.is("totalWeight()" + when, x.totalWeight(), sum);
            int room = States.WEIGHT_LIMIT - sum;
            for (int client = 0; client < States.CLIENTS && room > 0; client++) {
                if (x.weight(client) == 0) {
                    Due.is("join of one more than the room" + when, x.join(client, room + 1),
                        room < 36 ? EligibleDeadline.FULL : EligibleDeadline.BAD_WEIGHT);
                }
            }
        });
    }

    private static void noClientsNoWeight() {
        Due.is("totalWeight at the start", States.empty().totalWeight(), 0);
        Due.is("totalWeight when all have gone", States.allGone().totalWeight(), 0);
        Due.is("totalWeight when all have left", States.emptyAtHorizon().totalWeight(), 0);
    }

    private static void weightStaysWithinTheLimit() {
        for (int limit = 1; limit <= 36; limit++) {
            EligibleDeadline x = new EligibleDeadline(32, limit, 10);
            for (int client = 0; client < 32; client++) {
                x.join(client, limit / 2 + 1);
                x.join(client, 1);
                x.reweigh(client, 2);
                Due.is("totalWeight within " + limit, x.totalWeight() <= limit, true);
            }
        }
    }

    private static void clockCountsQuanta() {
        EligibleDeadline x = new EligibleDeadline(8, 36, 700);
        int given = x.run(9);
        Due.is("clock after time without clients", x.clock(), given);
        for (int calls = 0; calls < 100; calls++) {
            x.join(calls % 8, 1 + calls % 4);
            x.leave((calls + 3) % 8);
            given += x.run(1 + calls % 19);
            Due.is("clock after " + calls, x.clock(), given);
        }
        Due.is("clock at the horizon", given, 700);
    }

    private static void logOfTheLast64() {
        EligibleDeadline x = States.joined(2, 3, 5, 7);
        int[] got = new int[200];
        for (int quanta = 0; quanta < 200; quanta++) {
            got[quanta] = x.next();
            x.run(1);
            for (int back = 0; back < 70; back++) {
                int due = back < 64 && back <= quanta ? got[quanta - back] : EligibleDeadline.NONE;
                Due.is("ranAt(" + back + ") of " + (quanta + 1), x.ranAt(back), due);
            }
        }
    }

    private static void stepOfEachWeight() {
        for (int weight = 1; weight <= 36; weight++) {
            Due.is("the deadline of a new client of weight " + weight, States.joined(weight).deadline(0), UNIT / weight);
        }
        // What is seen of a quantum's step is the rest after the mean has moved by UNIT / W.
        for (int weight = 1; weight <= 35; weight++) {
            EligibleDeadline x = States.joined(weight, 1);
            long before = x.deadline(x.next());
            x.run(1);
            Due.is("a quantum of weight " + weight, x.deadline(x.ranAt(0)) - before, UNIT / weight - UNIT / (weight + 1));
        }
    }

    private static void lagFromTheAdvance() {
        Mixed.ofEachPresent((x, client, when) -> {
            long advance = x.deadline(client) - UNIT / x.weight(client);
            Due.is("lag(" + client + ")" + when, x.lag(client), -(x.weight(client) * advance));
        });
    }

    private static void deadlineFromTheAdvance() {
        Mixed.ofEachPresent((x, client, when) -> {
            long advance = -x.lag(client) / x.weight(client);
            Due.is("deadline(" + client + ")" + when, x.deadline(client), advance + UNIT / x.weight(client));
        });
    }

    private static void eligibleAtTheMean() {
        EligibleDeadline x = States.joined(1, 3);
        Due.is("eligible at advance 0", x.eligible(), 2);
        x.run(1);
        Due.is("eligible, one beyond the mean", x.eligible(), 1);
        Due.is("next, one beyond the mean", x.next(), 0);
        x.run(3);
        Due.is("eligible, both at advance 0 again", x.eligible(), 2);
    }

    private static void onlyPresentClientsAreChosen() {
        EligibleDeadline x = States.empty();
        x.join(3, 1);
        Due.is("next beside absent clients", x.next(), 3);
        x.join(1, 9);
        Due.is("next, 1 present", x.next(), 1);
        x.leave(1);
        Due.is("next, 1 gone", x.next(), 3);
        Due.is("bestWithin(MAX), 1 gone", x.bestWithin(Long.MAX_VALUE), 3);
    }

    private static void anAdvanceOfTheAllowanceIsWithin() {
        EligibleDeadline x = States.twoAfter(1);
        Due.is("best at the advance of 1", x.bestWithin(UNIT / 12), 1);
        Due.is("best a part below the advance of 1", x.bestWithin(UNIT / 12 - 1), 0);
        Due.is("best a part above the advance of 1", x.bestWithin(UNIT / 12 + 1), 1);
        Due.is("best at the advance of 0", x.bestWithin(-UNIT / 4), 0);
        Due.is("best a part below the advance of 0", x.bestWithin(-UNIT / 4 - 1), EligibleDeadline.NONE);
        Due.is("best a part above the advance of 0", x.bestWithin(-UNIT / 4 + 1), 0);
    }

    private static void comparedAsSignedLongs() {
        EligibleDeadline x = States.twoAfter(1);
        Due.is("a positive advance against -1", x.bestWithin(-1), 0);
        Due.is("a negative advance against 1", x.bestWithin(1), 0);
        Due.is("both against the least long", x.bestWithin(Long.MIN_VALUE), EligibleDeadline.NONE);
        Due.is("both against the greatest long", x.bestWithin(Long.MAX_VALUE), 1);
        Due.is("both against 2 to the 32nd", x.bestWithin(1L << 32), 0);
        Due.is("both against -(2 to the 32nd)", x.bestWithin(-(1L << 32)), 0);
        Due.is("both against 2 to the 62nd", x.bestWithin(1L << 62), 1);
        Due.is("both against -(2 to the 62nd)", x.bestWithin(-(1L << 62)), EligibleDeadline.NONE);
    }

    private static void theLeastDeadline() {
        EligibleDeadline x = States.twoAfter(1);
        x.join(2, 5);
        Due.is("the deadline UNIT / 5 of 2 at advance 0, before 0 further behind", x.next(), 2);
        Due.is("the same with 1 allowed too", x.bestWithin(Long.MAX_VALUE), 2);
        x.leave(2);
        Due.is("the deadline of 1 is less, but it is not allowed", x.next(), 0);
        Due.is("the deadline of 1 is less, and it is allowed", x.bestWithin(UNIT), 1);
    }

    private static void theLeastNameOfATie() {
        EligibleDeadline equal = States.empty();
        equal.join(6, 4);
        equal.join(2, 4);
        equal.join(7, 4);
        Due.is("the least name, joined second", equal.next(), 2);
        Due.is("the least name within MAX", equal.bestWithin(Long.MAX_VALUE), 2);
        // The light one is behind by UNIT / 2 and the heavy one at the mean: both are due at UNIT / 2.
        EligibleDeadline lightFirst = States.joined(1, 1, 2);
        lightFirst.run(2);
        Due.is("deadline of the light one", lightFirst.deadline(1), UNIT / 2);
        Due.is("deadline of the heavy one", lightFirst.deadline(2), UNIT / 2);
        Due.is("the light one has the least name", lightFirst.next(), 1);
        EligibleDeadline heavyFirst = States.joined(2, 1, 1);
        heavyFirst.run(2);
        Due.is("deadline of the heavy one", heavyFirst.deadline(0), UNIT / 2);
        Due.is("deadline of the light one", heavyFirst.deadline(2), UNIT / 2);
        Due.is("the heavy one has the least name", heavyFirst.next(), 0);
    }

    private static void noChoice() {
        Due.is("no client at all", States.empty().bestWithin(Long.MAX_VALUE), EligibleDeadline.NONE);
        Due.is("all gone", States.allGone().bestWithin(Long.MAX_VALUE), EligibleDeadline.NONE);
        Due.is("all at 0 against -1", States.joined(1, 3).bestWithin(-1), EligibleDeadline.NONE);
        Due.is("all above", States.twoAfter(1).bestWithin(-UNIT), EligibleDeadline.NONE);
    }
}
