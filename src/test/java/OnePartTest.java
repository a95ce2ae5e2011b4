/**
 * The closest misses there are: a client whose virtual time is one part off the mean, or whose
 * deadline is one part off another's. The words "exactly" and "exact" of the document hold only if
 * such a client is not taken for one at the mean, or for one of a tie.
 */
public final class OnePartTest {
    private static final long UNIT = States.UNIT;
    private static final int BEYOND = 1;
    private static final int BEHIND = -1;

    // UNIT is the product of these powers of different primes, so 1 / UNIT is, but for whole numbers,
    // a sum of fractions that have these below the line.
    private static final int[] SUMS = {7, 11, 13, 17, 19, 23, 25, 27, 29, 31, 32};

    public static void main(String[] args) {
        Due.sentence("Numbers: virtual times are exact, to a part", OnePartTest::advancesToAPart);
        Due.sentence("Numbers: lags are exact, to a part", OnePartTest::lagsToAPart);
        Due.sentence("Derived: eligible exactly if advance <= 0, to a part", OnePartTest::eligibleToAPart);
        Due.sentence("Choice: with advance <= x, to a part", OnePartTest::withinToAPart);
        Due.sentence("Choice: the least deadline, by a part less", OnePartTest::leastDeadlineByAPart);
        Due.sentence("Choice: a deadline that is a part more is no tie", OnePartTest::noTieByAPart);
        Due.sentence("3.5: an advance of one part is not 0: DEFERRED", OnePartTest::leaveIsDeferred);
        Due.sentence("5.4: an advance of one part is not 0: LAGGING", OnePartTest::reweighIsLagging);
        Due.sentence("6, step 1: one that is a part beyond the mean is not chosen", OnePartTest::notChosen);
        Due.sentence("6, step 5: a marked client that now is one part off stays", OnePartTest::leaverStays);
        Due.sentence("7: next answers best(0), to a part", OnePartTest::nextToAPart);
        Due.end();
    }

    private static void advancesToAPart() {
        for (int weight = 1; weight <= 3; weight++) {
            Due.is("deadline(0) a part beyond", onePart(0, weight, BEYOND).deadline(0), UNIT / weight + 1);
            Due.is("deadline(0) a part behind", onePart(0, weight, BEHIND).deadline(0), UNIT / weight - 1);
        }
    }

    private static void lagsToAPart() {
        for (int weight = 1; weight <= 3; weight++) {
            Due.is("lag(0) a part beyond", onePart(0, weight, BEYOND).lag(0), -weight);
            Due.is("lag(0) a part behind", onePart(0, weight, BEHIND).lag(0), weight);
        }
    }

    private static void eligibleToAPart() {
        for (int side = BEHIND; side <= BEYOND; side += 2) {
            EligibleDeadline x = onePart(0, 3, side);
            Due.is("lag(0), a part off by " + side, x.lag(0), -3 * side);
            int due = side == BEHIND ? 1 : 0;
            for (int client = 1; client < 32; client++) {
                due += x.weight(client) > 0 && x.lag(client) >= 0 ? 1 : 0;
            }
            Due.is("eligible, 0 a part off by " + side, x.eligible(), due);
        }
    }

    // Its deadline is earlier than those of the others, which have but a third of its weight.
    private static void withinToAPart() {
        EligibleDeadline beyond = onePart(0, 3, BEYOND);
        Due.is("bestWithin(1), a part beyond", beyond.bestWithin(1), 0);
        Due.is("bestWithin(0), a part beyond", beyond.bestWithin(0) == 0, false);
        EligibleDeadline behind = onePart(0, 3, BEHIND);
        Due.is("bestWithin(0), a part behind", behind.bestWithin(0), 0);
        Due.is("bestWithin(-1), a part behind", behind.bestWithin(-1), 0);
        Due.is("bestWithin(-2), a part behind", behind.bestWithin(-2) == 0, false);
    }

    private static void leastDeadlineByAPart() {
        EligibleDeadline x = onePart(31, 3, BEHIND);
        Due.is("join(30, 3)", x.join(30, 3), EligibleDeadline.OK);
        Due.is("deadline(30)", x.deadline(30), UNIT / 3);
        Due.is("deadline(31)", x.deadline(31), UNIT / 3 - 1);
        Due.is("next", x.next(), 31);
        x.run(1);
        Due.is("ranAt(0)", x.ranAt(0), 31);
    }

    private static void noTieByAPart() {
        EligibleDeadline x = onePart(0, 3, BEYOND);
        Due.is("join(31, 3)", x.join(31, 3), EligibleDeadline.OK);
        Due.is("deadline(31)", x.deadline(31), UNIT / 3);
        Due.is("deadline(0)", x.deadline(0), UNIT / 3 + 1);
        Due.is("bestWithin(1)", x.bestWithin(1), 31);
        Due.is("bestWithin(MAX)", x.bestWithin(Long.MAX_VALUE), 31);
    }

    private static void leaveIsDeferred() {
        for (int side = BEHIND; side <= BEYOND; side += 2) {
            EligibleDeadline x = onePart(0, 1, side);
            Due.is("leave(0), a part off by " + side, x.leave(0), EligibleDeadline.DEFERRED);
            Due.is("weight(0)", x.weight(0), 1);
        }
    }

    private static void reweighIsLagging() {
        for (int side = BEHIND; side <= BEYOND; side += 2) {
            EligibleDeadline x = onePart(0, 1, side);
            Due.is("reweigh(0, 2), a part off by " + side, x.reweigh(0, 2), EligibleDeadline.LAGGING);
            Due.is("reweigh(0, 1), a part off by " + side, x.reweigh(0, 1), EligibleDeadline.LAGGING);
        }
    }

    private static void notChosen() {
        EligibleDeadline beyond = onePart(0, 3, BEYOND);
        beyond.run(1);
        Due.is("0 was a part beyond and got the quantum", beyond.ranAt(0) == 0, false);
        EligibleDeadline behind = onePart(0, 3, BEHIND);
        behind.run(1);
        Due.is("the quantum after 0 was a part behind", behind.ranAt(0), 0);
    }

    private static void nextToAPart() {
        Due.is("next is 0, a part beyond", onePart(0, 3, BEYOND).next() == 0, false);
        Due.is("next, 0 a part behind", onePart(0, 3, BEHIND).next(), 0);
    }

    private static void leaverStays() {
        for (int side = BEHIND; side <= BEYOND; side += 2) {
            EligibleDeadline x = oneQuantumBefore(0, 1, side);
            Due.is("leave(0) a quantum before", x.leave(0), EligibleDeadline.DEFERRED);
            x.run(1);
            Due.is("lag(0), off by " + side, x.lag(0), -side);
            Due.is("weight(0)", x.weight(0), 1);
            Due.is("leaving(0)", x.leaving(0), true);
        }
    }

    /** The client of this name and weight is one part beyond the mean, or behind it; the others have weight 1. */
    private static EligibleDeadline onePart(int name, int weight, int side) {
        EligibleDeadline x = oneQuantumBefore(name, weight, side);
        x.run(1);
        return x;
    }

    // The mean goes 1 / W on with each quantum. Each W of the sums has so many quanta that in the end
    // the mean has gone a whole number but for one part, while the client has gone a whole number.
    private static EligibleDeadline oneQuantumBefore(int name, int weight, int side) {
        EligibleDeadline x = new EligibleDeadline(32, 36, 1000);
        x.join(name, weight);
        int joined = name == 0 ? 1 : 0;
        for (int sum : SUMS) {
            while (x.totalWeight() < sum) {
                x.join(joined, 1);
                joined++;
            }
            int quanta = quantaWith(sum, side);
            for (int given = sum == 32 ? 1 : 0; given < quanta; given++) {
                x.run(1);
            }
        }
        return x;
    }

    // The number above the line of the fraction with this sum below it.
    private static int quantaWith(int sum, int side) {
        int quanta = 0;
        while ((UNIT / sum % sum * quanta + side) % sum != 0) {
            quanta++;
        }
        return quanta;
    }
}
