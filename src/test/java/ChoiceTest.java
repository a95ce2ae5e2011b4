/** Promises 7 to 9, each sentence with a test of its own: next, bestWithin, eligible. */
public final class ChoiceTest {
    private static final long UNIT = States.UNIT;

    public static void main(String[] args) {
        Due.sentence("7: next answers best(0)", ChoiceTest::nextIsBestOfZero);
        Due.sentence("7: the client that the next quantum would go to", ChoiceTest::nextIsWhoRuns);
        Due.sentence("7: NONE exactly if no client is present", ChoiceTest::nextWithoutClients);
        Due.sentence("7: the horizon plays no part", ChoiceTest::nextAtTheHorizon);
        Due.sentence("7: changes nothing", () -> Unchanged.byAskingInEveryState("next()", x -> x.next()));
        Due.sentence("8: bestWithin answers best(allowance)", ChoiceTest::bestWithinIsBest);
        Due.sentence("8: advances are compared as signed longs", ChoiceTest::bestWithinOfEachSign);
        Due.sentence("8: for any long whatever, the negative ones", ChoiceTest::bestWithinNegative);
        Due.sentence("8: for any long whatever, the extreme ones", ChoiceTest::bestWithinExtremes);
        Due.sentence("8: present clients count whether marked or not", ChoiceTest::bestWithinMarked);
        Due.sentence("8: NONE if no present client has an advance at or below", ChoiceTest::bestWithinNone);
        Due.sentence("8: always NONE if no client is present", ChoiceTest::bestWithinWithoutClients);
        Due.sentence("8: with Long.MAX_VALUE every present client is within", ChoiceTest::bestWithinAll);
        Due.sentence("8: changes nothing", ChoiceTest::bestWithinChangesNothing);
        Due.sentence("9: eligible answers the number of present clients that are eligible", ChoiceTest::eligibleCounted);
        Due.sentence("9: advance(i) <= 0, and 0 counts", ChoiceTest::eligibleAtZero);
        Due.sentence("9: one beyond the mean does not count", ChoiceTest::eligibleBeyond);
        Due.sentence("9: marked or not", ChoiceTest::eligibleMarked);
        Due.sentence("9: 0 exactly if no client is present", ChoiceTest::eligibleWithoutClients);
        Due.sentence("9: changes nothing", () -> Unchanged.byAskingInEveryState("eligible()", x -> x.eligible()));
        Due.end();
    }

    private static void nextIsBestOfZero() {
        EligibleDeadline x = States.joined(2, 3, 5, 7);
        for (int quanta = 0; quanta < 100; quanta++) {
            Due.is("next", x.next(), x.bestWithin(0));
            x.run(1);
        }
        Due.is("next, 1 beyond the mean with the least deadline", States.twoAfter(1).next(), 0);
        Due.is("next, both at advance 0", States.twoAfter(4).next(), 1);
        EligibleDeadline close = States.joined(35, 1);
        close.run(1);
        Due.is("next, 0 only UNIT / 1260 beyond the mean", close.next(), 1);
    }

    private static void nextIsWhoRuns() {
        EligibleDeadline x = States.twoMarked();
        for (int quanta = 0; quanta < 3; quanta++) {
            int told = x.next();
            x.run(1);
            Due.is("the client that ran", x.ranAt(0), told);
        }
    }

    private static void nextWithoutClients() {
        Due.is("next at the start", States.empty().next(), EligibleDeadline.NONE);
        Due.is("next, all gone", States.allGone().next(), EligibleDeadline.NONE);
        Due.is("next, all left", States.emptyAtHorizon().next(), EligibleDeadline.NONE);
        EligibleDeadline x = States.empty();
        x.join(7, 36);
        Due.is("next of the only one", x.next(), 7);
        Due.is("next of marked ones", States.twoMarked().next(), 0);
    }

    private static void nextAtTheHorizon() {
        Due.is("next at the horizon", States.atHorizon().next(), 0);
        Due.is("next at the horizon, marked", States.markedAtHorizon().next(), 0);
        Due.is("next at the horizon, empty", States.emptyAtHorizon().next(), EligibleDeadline.NONE);
        EligibleDeadline x = States.atHorizon();
        x.join(5, 30);
        Due.is("next at the horizon, after join", x.next(), 5);
    }

    private static void bestWithinIsBest() {
        Mixed.ofEachPresent((x, client, when) -> {
            long advance = advance(x, client);
            for (long allowance = advance - 1; allowance <= advance + 1; allowance++) {
                Due.is("bestWithin(" + allowance + ")" + when, x.bestWithin(allowance), best(x, allowance));
            }
        });
    }

    private static int best(EligibleDeadline x, long allowance) {
        int best = EligibleDeadline.NONE;
        for (int client = 0; client < States.CLIENTS; client++) {
            boolean within = x.weight(client) > 0 && advance(x, client) <= allowance;
            if (within && (best < 0 || x.deadline(client) < x.deadline(best))) {
                best = client;
            }
        }
        return best;
    }

    private static long advance(EligibleDeadline x, int client) {
        return -x.lag(client) / x.weight(client);
    }

    // Read without their signs, the negative ones would be the greatest.
    private static void bestWithinOfEachSign() {
        EligibleDeadline x = States.twoAfter(1);
        Due.is("a positive advance is not below -1", x.bestWithin(-1), 0);
        Due.is("a negative advance is below 1", x.bestWithin(1), 0);
        Due.is("a negative advance is below the greatest long", x.bestWithin(Long.MAX_VALUE), 1);
        Due.is("no advance is below the least long", x.bestWithin(Long.MIN_VALUE), EligibleDeadline.NONE);
        Due.is("an advance of 0 is not below -1", States.joined(1, 3).bestWithin(-1), EligibleDeadline.NONE);
    }

    private static void bestWithinNegative() {
        EligibleDeadline x = States.twoAfter(2);
        Due.is("bestWithin(-1)", x.bestWithin(-1), 1);
        Due.is("bestWithin at the advance", x.bestWithin(-UNIT / 6), 1);
        Due.is("bestWithin below the advance", x.bestWithin(-UNIT / 6 - 1), EligibleDeadline.NONE);
        EligibleDeadline three = States.joined(2, 3, 8);
        three.run(1);
        Due.is("both behind are at the allowance", three.bestWithin(-UNIT / 13), 1);
        three.run(1);
        Due.is("only 0 is behind by two steps", three.bestWithin(-UNIT / 13 * 2), 0);
    }

    private static void bestWithinExtremes() {
        EligibleDeadline x = States.twoAfter(1);
        Due.is("bestWithin(MIN)", x.bestWithin(Long.MIN_VALUE), EligibleDeadline.NONE);
        Due.is("bestWithin(MIN + 1)", x.bestWithin(Long.MIN_VALUE + 1), EligibleDeadline.NONE);
        Due.is("bestWithin(MAX - 1)", x.bestWithin(Long.MAX_VALUE - 1), 1);
        Due.is("bestWithin(MAX)", x.bestWithin(Long.MAX_VALUE), 1);
        EligibleDeadline level = States.joined(1, 3);
        Due.is("bestWithin(MIN), all at 0", level.bestWithin(Long.MIN_VALUE), EligibleDeadline.NONE);
        Due.is("bestWithin(MAX), all at 0", level.bestWithin(Long.MAX_VALUE), 1);
    }

    private static void bestWithinMarked() {
        EligibleDeadline x = States.twoMarked();
        Due.is("bestWithin(MAX)", x.bestWithin(Long.MAX_VALUE), 1);
        Due.is("bestWithin(0)", x.bestWithin(0), 0);
        Due.is("bestWithin at the advance", x.bestWithin(-UNIT / 4), 0);
        Due.is("bestWithin below it", x.bestWithin(-UNIT / 4 - 1), EligibleDeadline.NONE);
    }

    private static void bestWithinNone() {
        Due.is("a part below all", States.twoAfter(1).bestWithin(-UNIT / 4 - 1), EligibleDeadline.NONE);
        Due.is("a part below 0, all at 0", States.joined(1, 3).bestWithin(-1), EligibleDeadline.NONE);
        Due.is("0, all at 0", States.joined(1, 3).bestWithin(0), 1);
    }

    private static void bestWithinWithoutClients() {
        long[] allowances = {Long.MIN_VALUE, -UNIT, -1, 0, 1, UNIT, Long.MAX_VALUE};
        for (long allowance : allowances) {
            Due.is("bestWithin at the start", States.empty().bestWithin(allowance), EligibleDeadline.NONE);
            Due.is("bestWithin, all gone", States.allGone().bestWithin(allowance), EligibleDeadline.NONE);
            Due.is("bestWithin, all left", States.emptyAtHorizon().bestWithin(allowance), EligibleDeadline.NONE);
        }
    }

    // Whichever of the clients is the furthest beyond the mean, its deadline is compared too.
    private static void bestWithinAll() {
        EligibleDeadline x = States.joined(2, 3, 5, 7);
        for (int quanta = 0; quanta < 34; quanta++) {
            int least = 0;
            for (int client = 1; client < 4; client++) {
                least = x.deadline(client) < x.deadline(least) ? client : least;
            }
            Due.is("bestWithin(MAX) after " + quanta, x.bestWithin(Long.MAX_VALUE), least);
            x.run(1);
        }
    }

    private static void bestWithinChangesNothing() {
        Unchanged.byAskingInEveryState("bestWithin of many", x -> {
            x.bestWithin(Long.MIN_VALUE);
            for (int part = -40; part <= 40; part++) {
                x.bestWithin(UNIT / 36 * part);
            }
            x.bestWithin(Long.MAX_VALUE);
        });
    }

    private static void eligibleCounted() {
        Mixed.inEachState((when, maker) -> {
            EligibleDeadline x = maker.get();
            int due = 0;
            for (int client = 0; client < States.CLIENTS; client++) {
                due += x.weight(client) > 0 && x.lag(client) >= 0 ? 1 : 0;
            }
            Due.is("eligible()" + when, x.eligible(), due);
        });
    }

    private static void eligibleAtZero() {
        Due.is("eligible, all at 0", States.joined(1, 2, 3, 4).eligible(), 4);
        EligibleDeadline x = States.twoAfter(1);
        x.join(5, 2);
        Due.is("eligible, one at 0 and one behind", x.eligible(), 2);
        EligibleDeadline all = new EligibleDeadline(32, 36, 100);
        for (int client = 0; client < 32; client++) {
            all.join(client, 1);
            Due.is("eligible of " + (client + 1), all.eligible(), client + 1);
        }
    }

    private static void eligibleBeyond() {
        EligibleDeadline x = new EligibleDeadline(32, 36, 100);
        for (int client = 0; client < 32; client++) {
            x.join(client, 1);
        }
        for (int quanta = 1; quanta < 32; quanta++) {
            x.run(1);
            Due.is("eligible after " + quanta, x.eligible(), 32 - quanta);
        }
        x.run(1);
        Due.is("eligible after the round", x.eligible(), 32);
        EligibleDeadline close = States.joined(35, 1);
        close.run(1);
        Due.is("eligible, 0 only UNIT / 1260 beyond the mean", close.eligible(), 1);
    }

    private static void eligibleMarked() {
        Due.is("eligible, both marked", States.twoMarked().eligible(), 1);
        Due.is("eligible, both marked at the horizon", States.markedAtHorizon().eligible(), 1);
        EligibleDeadline x = States.joined(2, 3, 8);
        x.run(1);
        x.leave(0);
        Due.is("eligible, one of two behind marked", x.eligible(), 2);
    }

    private static void eligibleWithoutClients() {
        Due.is("eligible at the start", States.empty().eligible(), 0);
        Due.is("eligible, all gone", States.allGone().eligible(), 0);
        Due.is("eligible, all left", States.emptyAtHorizon().eligible(), 0);
        EligibleDeadline x = States.joined(2, 3, 5, 7);
        for (int quanta = 0; quanta < 100; quanta++) {
            Due.is("eligible is not 0", x.eligible() > 0, true);
            x.run(1);
        }
    }
}
