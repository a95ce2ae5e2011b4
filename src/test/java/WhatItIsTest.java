import java.math.BigInteger;

/** The part "What it is" with the meanings of the public constants, each sentence with a test of its own. */
public final class WhatItIsTest {
    private static final long UNIT = States.UNIT;
    private static final int[][] SETS = {
        {36}, {1, 3}, {5, 5, 5}, {2, 3, 5, 7}, {1, 2, 4, 8, 16}, {20, 1, 1, 1}, {1, 2, 3, 4, 5, 6, 7, 8}};

    public static void main(String[] args) {
        Due.sentence("What it is: a proportional-share scheduler of weighted clients", WhatItIsTest::sharesInProportion);
        Due.sentence("What it is: on one processor", WhatItIsTest::oneProcessor);
        Due.sentence("What it is: every present client always wants one more quantum", WhatItIsTest::alwaysWantsOneMore);
        Due.sentence("What it is: each quantum goes to the earliest eligible deadline", WhatItIsTest::earliestEligibleDeadline);
        Due.sentence("What it is: the least name deciding ties", WhatItIsTest::leastNameDecidesTies);
        Due.sentence("What it is: eligible when not beyond the exact weighted mean", WhatItIsTest::notBeyondTheMean);
        Due.sentence("What it is: clients join at lag zero", WhatItIsTest::joinAtLagZero);
        Due.sentence("What it is: may change weight only at lag zero", WhatItIsTest::reweighOnlyAtLagZero);
        Due.sentence("What it is: leave at lag zero", WhatItIsTest::leaveOnlyAtLagZero);
        Due.sentence("What it is: a request to leave at another moment is kept", WhatItIsTest::requestIsKept);
        Due.sentence("What it is: takes effect at the first quantum with lag zero", WhatItIsTest::requestTakesEffect);
        Due.sentence("What it is: unless it is withdrawn before", WhatItIsTest::requestIsWithdrawn);
        Due.sentence("UNIT: the parts that make one unit of virtual time", WhatItIsTest::unitOfVirtualTime);
        Due.sentence("UNIT: or one quantum of lag", WhatItIsTest::quantumOfLag);
        Due.sentence("NO_VALUE: the answer of lag and deadline where there is no such client", WhatItIsTest::noValue);
        Due.sentence("OK: done", WhatItIsTest::ok);
        Due.sentence("DEFERRED: the request to leave is kept", WhatItIsTest::deferred);
        Due.sentence("NONE: no client, or no count", WhatItIsTest::none);
        Due.sentence("BAD_CLIENT: the client argument is bad", WhatItIsTest::badClient);
        Due.sentence("BAD_WEIGHT: the weight is out of range", WhatItIsTest::badWeight);
        Due.sentence("PRESENT: the client is already present", WhatItIsTest::present);
        Due.sentence("ABSENT: the client is absent", WhatItIsTest::absent);
        Due.sentence("FULL: the total weight would exceed weightLimit", WhatItIsTest::full);
        Due.sentence("LAGGING: the advance is not 0", WhatItIsTest::lagging);
        Due.sentence("ALREADY: the client is already marked as leaving", WhatItIsTest::already);
        Due.sentence("NOT_LEAVING: the client is not marked as leaving", WhatItIsTest::notLeaving);
        Due.sentence("BAD_COUNT: the count is out of range", WhatItIsTest::badCount);
        Due.end();
    }

    private static void sharesInProportion() {
        for (int[] weights : SETS) {
            EligibleDeadline x = States.joined(weights);
            for (int round = 1; round <= 20; round++) {
                x.run(x.totalWeight());
                for (int client = 0; client < weights.length; client++) {
                    Due.is("served(" + client + ") after round " + round, x.served(client), round * weights[client]);
                }
            }
        }
    }

    private static void oneProcessor() {
        for (int[] weights : SETS) {
            EligibleDeadline x = States.joined(weights);
            for (int quanta = 1; quanta <= 100; quanta++) {
                x.run(1);
                int sum = 0;
                for (int client = 0; client < weights.length; client++) {
                    sum += x.served(client);
                }
                Due.is("the quanta given to all clients", sum, quanta);
            }
        }
    }

    private static void alwaysWantsOneMore() {
        for (int[] weights : SETS) {
            EligibleDeadline x = States.joined(weights);
            for (int rounds = 1; rounds <= 15; rounds++) {
                int[] before = servedCounts(x, weights.length);
                Due.is("run(64)", x.run(64), 64);
                int[] after = servedCounts(x, weights.length);
                for (int client = 0; client < weights.length; client++) {
                    Due.is("served again, client " + client, after[client] > before[client], true);
                }
            }
        }
    }

    private static int[] servedCounts(EligibleDeadline x, int clients) {
        int[] counts = new int[clients];
        for (int client = 0; client < clients; client++) {
            counts[client] = x.served(client);
        }
        return counts;
    }

    private static void earliestEligibleDeadline() {
        Mixed.inEachState((when, maker) -> {
            EligibleDeadline x = maker.get();
            int due = EligibleDeadline.NONE;
            for (int client = 0; client < States.CLIENTS; client++) {
                boolean eligible = x.weight(client) > 0 && x.lag(client) >= 0;
                if (eligible && (due < 0 || x.deadline(client) < x.deadline(due))) {
                    due = client;
                }
            }
            if (x.run(1) == 1) {
                Due.is("the quantum" + when, x.ranAt(0), due);
            }
        });
    }

    private static void leastNameDecidesTies() {
        for (int weight = 1; weight <= 4; weight++) {
            EligibleDeadline x = States.empty();
            for (int client = 7; client >= 0; client--) {
                x.join(client, weight);
            }
            for (int quanta = 0; quanta < 40; quanta++) {
                x.run(1);
                Due.is("the quantum " + quanta + " of equal weights", x.ranAt(0), quanta % 8);
            }
        }
    }

    // All join at once, so the virtual time of each is the quanta it was given, divided by its weight.
    private static void notBeyondTheMean() {
        for (int[] weights : SETS) {
            EligibleDeadline x = States.joined(weights);
            for (int quanta = 0; quanta < 100; quanta++) {
                BigInteger weighted = BigInteger.ZERO;
                for (int client = 0; client < weights.length; client++) {
                    weighted = weighted.add(virtualTime(x, client).multiply(BigInteger.valueOf(weights[client])));
                }
                int eligible = 0;
                for (int client = 0; client < weights.length; client++) {
                    BigInteger own = virtualTime(x, client).multiply(BigInteger.valueOf(x.totalWeight()));
                    eligible += own.compareTo(weighted) <= 0 ? 1 : 0;
                }
                Due.is("eligible after " + quanta, x.eligible(), eligible);
                x.run(1);
            }
        }
    }

    private static BigInteger virtualTime(EligibleDeadline x, int client) {
        return BigInteger.valueOf(UNIT / x.weight(client)).multiply(BigInteger.valueOf(x.served(client)));
    }

    private static void joinAtLagZero() {
        Mixed.inEachState((when, maker) -> {
            for (int client = 0; client < States.CLIENTS; client++) {
                EligibleDeadline x = maker.get();
                if (x.join(client, 1) == EligibleDeadline.OK) {
                    Due.is("lag(" + client + ")" + when, x.lag(client), 0);
                }
            }
        });
    }

    private static void reweighOnlyAtLagZero() {
        Mixed.inEachState((when, maker) -> {
            for (int client = 0; client < States.CLIENTS; client++) {
                EligibleDeadline x = maker.get();
                if (x.weight(client) > 0) {
                    boolean atZero = x.lag(client) == 0;
                    boolean changed = x.reweigh(client, 1) == EligibleDeadline.OK;
                    Due.is("the weight of " + client + " may change" + when, changed, atZero);
                }
            }
        });
    }

    private static void leaveOnlyAtLagZero() {
        Mixed.inEachState((when, maker) -> {
            for (int client = 0; client < States.CLIENTS; client++) {
                EligibleDeadline x = maker.get();
                if (x.weight(client) > 0) {
                    boolean atZero = x.lag(client) == 0;
                    x.leave(client);
                    Due.is(client + " has left" + when, x.weight(client) == 0, atZero);
                }
            }
        });
    }

    private static void requestIsKept() {
        Mixed.inEachState((when, maker) -> {
            for (int client = 0; client < States.CLIENTS; client++) {
                EligibleDeadline x = maker.get();
                if (x.weight(client) > 0 && x.lag(client) != 0 && !x.leaving(client)) {
                    Due.is("leave(" + client + ")" + when, x.leave(client), EligibleDeadline.DEFERRED);
                    Due.is("leaving(" + client + ")" + when, x.leaving(client), true);
                }
            }
        });
    }

    // The twin goes the same way without the request, so it shows when the lag comes to zero.
    private static void requestTakesEffect() {
        for (int[] weights : SETS) {
            for (int client = 0; client < weights.length; client++) {
                EligibleDeadline x = States.joined(weights);
                EligibleDeadline twin = States.joined(weights);
                x.run(1);
                twin.run(1);
                x.leave(client);
                int quanta = 1;
                while (twin.lag(client) != 0 && quanta < 100) {
                    Due.is("there after quantum " + quanta, x.weight(client), weights[client]);
                    x.run(1);
                    twin.run(1);
                    quanta++;
                }
                Due.is("there at lag zero, after quantum " + quanta, x.weight(client), 0);
            }
        }
    }

    private static void requestIsWithdrawn() {
        for (int[] weights : SETS) {
            for (int client = 0; client < weights.length && weights.length > 1; client++) {
                EligibleDeadline x = States.joined(weights);
                x.run(1);
                Due.is("leave(" + client + ")", x.leave(client), EligibleDeadline.DEFERRED);
                Due.is("stay(" + client + ")", x.stay(client), EligibleDeadline.OK);
                x.run(x.totalWeight() - 1);
                Due.is("lag(" + client + ") after the round", x.lag(client), 0);
                Due.is("weight(" + client + ") after the round", x.weight(client), weights[client]);
            }
        }
    }

    // A quantum takes a client of weight w on by one unit of virtual time, divided by w.
    private static void unitOfVirtualTime() {
        for (int weight = 1; weight <= 18; weight++) {
            EligibleDeadline x = States.joined(weight, weight);
            x.run(1);
            long apart = x.deadline(0) - x.deadline(1);
            Due.is("w times the way of a quantum, w = " + weight, weight * apart, EligibleDeadline.UNIT);
        }
    }

    private static void quantumOfLag() {
        for (int weight = 1; weight <= 18; weight++) {
            EligibleDeadline x = States.joined(weight, weight);
            x.run(1);
            Due.is("the lags of two are a quantum apart", x.lag(1) - x.lag(0), EligibleDeadline.UNIT);
        }
    }

    private static void noValue() {
        int[] nobody = {-1, States.ABSENT_CLIENT, States.CLIENTS};
        for (int client : nobody) {
            Due.is("lag(" + client + ")", States.twoMarked().lag(client), EligibleDeadline.NO_VALUE);
            Due.is("deadline(" + client + ")", States.twoMarked().deadline(client), EligibleDeadline.NO_VALUE);
        }
        Mixed.ofEachPresent((x, client, when) -> {
            Due.is("lag is a value" + when, x.lag(client) != EligibleDeadline.NO_VALUE, true);
            Due.is("deadline is a value" + when, x.deadline(client) != EligibleDeadline.NO_VALUE, true);
        });
    }

    private static void ok() {
        EligibleDeadline x = States.twoMarked();
        Due.is("stay(0)", x.stay(0), EligibleDeadline.OK);
        Due.is("leaving(0)", x.leaving(0), false);
        Due.is("join(2, 5)", x.join(2, 5), EligibleDeadline.OK);
        Due.is("weight(2)", x.weight(2), 5);
        Due.is("reweigh(2, 6)", x.reweigh(2, 6), EligibleDeadline.OK);
        Due.is("weight(2)", x.weight(2), 6);
        Due.is("leave(2)", x.leave(2), EligibleDeadline.OK);
        Due.is("weight(2)", x.weight(2), 0);
    }

    private static void deferred() {
        EligibleDeadline x = States.twoAfter(1);
        Due.is("leave(1)", x.leave(1), EligibleDeadline.DEFERRED);
        Due.is("leaving(1)", x.leaving(1), true);
        x.run(3);
        Due.is("weight(1), the kept request has taken effect", x.weight(1), 0);
    }

    private static void none() {
        EligibleDeadline x = States.empty();
        Due.is("next()", x.next(), EligibleDeadline.NONE);
        Due.is("bestWithin(0)", x.bestWithin(0), EligibleDeadline.NONE);
        Due.is("ranAt(0)", x.ranAt(0), EligibleDeadline.NONE);
        Due.is("served(0)", x.served(0), EligibleDeadline.NONE);
    }

    private static void badClient() {
        for (int bad : States.BAD_CLIENTS) {
            EligibleDeadline x = States.twoMarked();
            Due.is("join(" + bad + ", 1)", x.join(bad, 1), EligibleDeadline.BAD_CLIENT);
            Due.is("leave(" + bad + ")", x.leave(bad), EligibleDeadline.BAD_CLIENT);
            Due.is("stay(" + bad + ")", x.stay(bad), EligibleDeadline.BAD_CLIENT);
            Due.is("reweigh(" + bad + ", 1)", x.reweigh(bad, 1), EligibleDeadline.BAD_CLIENT);
        }
    }

    private static void badWeight() {
        for (int bad : States.BAD_WEIGHTS) {
            EligibleDeadline x = States.twoAfter(4);
            Due.is("join(2, " + bad + ")", x.join(2, bad), EligibleDeadline.BAD_WEIGHT);
            Due.is("reweigh(1, " + bad + ")", x.reweigh(1, bad), EligibleDeadline.BAD_WEIGHT);
        }
    }

    private static void present() {
        Mixed.ofEachPresent((x, client, when) ->
            Due.is("join(" + client + ", 1)" + when, x.join(client, 1), EligibleDeadline.PRESENT));
    }

    private static void absent() {
        Mixed.inEachState((when, maker) -> {
            EligibleDeadline x = maker.get();
            for (int client = 0; client < States.CLIENTS; client++) {
                if (x.weight(client) == 0) {
                    Due.is("leave(" + client + ")" + when, x.leave(client), EligibleDeadline.ABSENT);
                    Due.is("stay(" + client + ")" + when, x.stay(client), EligibleDeadline.ABSENT);
                    Due.is("reweigh(" + client + ", 1)" + when, x.reweigh(client, 1), EligibleDeadline.ABSENT);
                }
            }
        });
    }

    private static void full() {
        EligibleDeadline x = States.joined(30, 4);
        Due.is("join(2, 3) beside 34", x.join(2, 3), EligibleDeadline.FULL);
        Due.is("reweigh(1, 7) beside 30", x.reweigh(1, 7), EligibleDeadline.FULL);
        Due.is("join(2, 2) beside 34", x.join(2, 2), EligibleDeadline.OK);
    }

    private static void lagging() {
        Mixed.ofEachPresent((x, client, when) -> {
            int due = x.lag(client) != 0 ? EligibleDeadline.LAGGING : EligibleDeadline.OK;
            Due.is("reweigh(" + client + ") to its weight" + when, x.reweigh(client, x.weight(client)), due);
        });
    }

    private static void already() {
        Mixed.ofEachPresent((x, client, when) -> {
            boolean marked = x.leaving(client);
            boolean refused = x.leave(client) == EligibleDeadline.ALREADY;
            Due.is("leave(" + client + ") is ALREADY" + when, refused, marked);
        });
    }

    private static void notLeaving() {
        Mixed.ofEachPresent((x, client, when) -> {
            int due = x.leaving(client) ? EligibleDeadline.OK : EligibleDeadline.NOT_LEAVING;
            Due.is("stay(" + client + ")" + when, x.stay(client), due);
        });
    }

    private static void badCount() {
        for (int count = -3; count <= 70; count++) {
            boolean refused = States.twoAfter(1).run(count) == EligibleDeadline.BAD_COUNT;
            Due.is("run(" + count + ") is BAD_COUNT", refused, count < 1 || count > 64);
        }
    }
}
