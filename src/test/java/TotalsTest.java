/** Promises 15 to 17, each sentence with a test of its own: totalWeight, clock, ranAt. */
public final class TotalsTest {
    public static void main(String[] args) {
        Due.sentence("15: totalWeight answers the sum of the weights of all present clients", TotalsTest::totalWeightIsTheSum);
        Due.sentence("15: the marked ones included", TotalsTest::totalWeightOfMarked);
        Due.sentence("15: 0 if there are none", TotalsTest::totalWeightWithoutClients);
        Due.sentence("15: never more than weightLimit", TotalsTest::totalWeightAtTheLimit);
        Due.sentence("15: changes nothing", () -> Unchanged.byAskingInEveryState("totalWeight()", x -> x.totalWeight()));
        Due.sentence("16: clock answers the number of quanta given since construction", TotalsTest::clockIsTheQuantaGiven);
        Due.sentence("16: 0 .. horizon", TotalsTest::clockWithinTheHorizon);
        Due.sentence("16: only quanta given by run move it", TotalsTest::clockMovedByRunAlone);
        Due.sentence("16: it never goes back", TotalsTest::clockNeverGoesBack);
        Due.sentence("16: changes nothing", () -> Unchanged.byAskingInEveryState("clock()", x -> x.clock()));
        Due.sentence("17: ranAt answers who got the quantum before the last back quanta", TotalsTest::ranAtIsWhoGotIt);
        Due.sentence("17: back 0 is the most recent quantum, 1 the one before", TotalsTest::ranAtInOrder);
        Due.sentence("17: NONE if back < 0", TotalsTest::ranAtBelowZero);
        Due.sentence("17: NONE if back > 63", TotalsTest::ranAtAbove63);
        Due.sentence("17: NONE if back >= the clock", TotalsTest::ranAtBeforeTheFirst);
        Due.sentence("17: the last 64 after the log has wrapped around", TotalsTest::ranAtWrapped);
        Due.sentence("17: the last 64 at the greatest horizon", TotalsTest::ranAtTheGreatestHorizon);
        Due.sentence("17: names stay in the log when their clients leave", TotalsTest::ranAtOfTheGone);
        Due.sentence("17: names stay in the log when their clients join again", TotalsTest::ranAtOfTheJoinedAgain);
        Due.sentence("17: changes nothing", TotalsTest::ranAtChangesNothing);
        Due.end();
    }

    private static void totalWeightIsTheSum() {
        Mixed.inEachState((when, maker) -> {
            EligibleDeadline x = maker.get();
            int sum = 0;
            for (int client = 0; client < States.CLIENTS; client++) {
                sum += x.weight(client);
            }
            Due.is("totalWeight()" + when, x.totalWeight(), sum);
        });
        EligibleDeadline x = States.joined(1, 2, 4, 8, 16);
        Due.is("totalWeight of five", x.totalWeight(), 31);
        x.leave(2);
        Due.is("totalWeight of four", x.totalWeight(), 27);
    }

    private static void totalWeightOfMarked() {
        Due.is("totalWeight, both marked", States.twoMarked().totalWeight(), 4);
        EligibleDeadline x = States.allWeightTaken();
        x.leave(1);
        Due.is("totalWeight, one marked", x.totalWeight(), 36);
    }

    private static void totalWeightWithoutClients() {
        Due.is("totalWeight at the start", States.empty().totalWeight(), 0);
        Due.is("totalWeight, all gone", States.allGone().totalWeight(), 0);
        Due.is("totalWeight, all left", States.emptyAtHorizon().totalWeight(), 0);
    }

    private static void totalWeightAtTheLimit() {
        for (int limit = 1; limit <= 36; limit++) {
            EligibleDeadline x = new EligibleDeadline(32, limit, 10);
            for (int client = 0; client < 32; client++) {
                x.join(client, 1);
                Due.is("totalWeight within " + limit, x.totalWeight(), Math.min(limit, client + 1));
            }
            x.reweigh(0, limit);
            Due.is("totalWeight after reweigh", x.totalWeight(), Math.min(limit, 32));
        }
    }

    private static void clockIsTheQuantaGiven() {
        EligibleDeadline x = States.joined(2, 3, 5, 7);
        int given = 0;
        for (int count = 1; count <= 40; count++) {
            given += x.run(count);
            Due.is("clock after run(" + count + ")", x.clock(), given);
        }
        x.leave(0);
        x.leave(1);
        Due.is("clock after leave", x.clock(), 820);
    }

    private static void clockWithinTheHorizon() {
        int[] horizons = {1, 2, 63, 64, 65, 1000, 30000};
        for (int horizon : horizons) {
            EligibleDeadline x = new EligibleDeadline(1, 1, horizon);
            Due.is("clock at the start", x.clock(), 0);
            x.join(0, 1);
            for (int calls = 0; calls < 470; calls++) {
                x.run(64);
                Due.is("clock", x.clock(), Math.min(horizon, 64 * (calls + 1)));
            }
        }
    }

    private static void clockMovedByRunAlone() {
        EligibleDeadline x = States.twoAfter(1);
        x.join(5, 2);
        x.reweigh(5, 3);
        x.leave(5);
        x.leave(0);
        x.stay(0);
        x.join(0, 1);
        x.run(0);
        x.run(65);
        Snapshot.of(x);
        Due.is("clock", x.clock(), 1);
    }

    private static void clockNeverGoesBack() {
        EligibleDeadline x = States.twoMarked();
        Due.is("clock", x.clock(), 1);
        x.run(64);
        Due.is("clock, all gone", x.clock(), 4);
        x.join(0, 1);
        Due.is("clock, joined again", x.clock(), 4);
        x.run(64);
        Due.is("clock, run on", x.clock(), 68);
        x.leave(0);
        Due.is("clock, left", x.clock(), 68);
    }

    private static void ranAtIsWhoGotIt() {
        EligibleDeadline x = States.joined(2, 3, 5, 7);
        int[] got = new int[150];
        for (int quanta = 0; quanta < 150; quanta++) {
            got[quanta] = x.next();
            x.run(1);
            for (int back = 0; back < 64 && back <= quanta; back++) {
                Due.is("ranAt(" + back + ") of " + (quanta + 1), x.ranAt(back), got[quanta - back]);
            }
        }
    }

    private static void ranAtInOrder() {
        EligibleDeadline x = States.twoAfter(4);
        Due.is("ranAt(0)", x.ranAt(0), 1);
        Due.is("ranAt(1)", x.ranAt(1), 1);
        Due.is("ranAt(2)", x.ranAt(2), 0);
        Due.is("ranAt(3)", x.ranAt(3), 1);
    }

    private static void ranAtBelowZero() {
        int[] below = {Integer.MIN_VALUE, Integer.MIN_VALUE + 1, -65, -64, -63, -2, -1};
        for (int back : below) {
            Due.is("ranAt(" + back + ") at the start", States.empty().ranAt(back), EligibleDeadline.NONE);
            Due.is("ranAt(" + back + ") of 1", States.twoAfter(1).ranAt(back), EligibleDeadline.NONE);
            Due.is("ranAt(" + back + ") of 131", States.logWrapped().ranAt(back), EligibleDeadline.NONE);
        }
    }

    private static void ranAtAbove63() {
        int[] above = {64, 65, 127, 128, 130, 131, 256, 65536, Integer.MAX_VALUE - 1, Integer.MAX_VALUE};
        for (int back : above) {
            Due.is("ranAt(" + back + ") of 131", States.logWrapped().ranAt(back), EligibleDeadline.NONE);
        }
        Due.is("ranAt(63) of 131", States.logWrapped().ranAt(63), 1);
    }

    private static void ranAtBeforeTheFirst() {
        EligibleDeadline x = States.joined(1);
        for (int clock = 0; clock <= 66; clock++) {
            for (int back = 0; back <= 66; back++) {
                int due = back < clock && back < 64 ? 0 : EligibleDeadline.NONE;
                Due.is("ranAt(" + back + ") of " + clock, x.ranAt(back), due);
            }
            x.run(1);
        }
    }

    private static void ranAtWrapped() {
        EligibleDeadline x = takingTurns(1000);
        for (int clock = 1; clock <= 300; clock++) {
            x.run(1);
            for (int back = 0; back < 64 && back < clock; back++) {
                Due.is("ranAt(" + back + ") of " + clock, x.ranAt(back), (clock - 1 - back) % 31);
            }
        }
    }

    private static void ranAtTheGreatestHorizon() {
        EligibleDeadline x = takingTurns(30000);
        for (int calls = 0; calls < 500; calls++) {
            x.run(64);
        }
        for (int back = 0; back < 64; back++) {
            Due.is("ranAt(" + back + ") of 30000", x.ranAt(back), (30000 - 1 - back) % 31);
        }
        Due.is("ranAt(64) of 30000", x.ranAt(64), EligibleDeadline.NONE);
    }

    // Equal weights take turns by name, so quantum q goes to client q % 31; 31 does not divide 64,
    // so an entry in the wrong place of the log shows.
    private static EligibleDeadline takingTurns(int horizon) {
        EligibleDeadline x = new EligibleDeadline(32, 36, horizon);
        for (int client = 0; client < 31; client++) {
            x.join(client, 1);
        }
        return x;
    }

    private static void ranAtOfTheGone() {
        int[] order = {1, 1, 0, 1};
        for (int back = 0; back < 4; back++) {
            Due.is("ranAt(" + back + ") of the gone", States.allGone().ranAt(back), order[back]);
            Due.is("ranAt(" + back + ") of the left", States.emptyAtHorizon().ranAt(back), order[back]);
        }
    }

    private static void ranAtOfTheJoinedAgain() {
        EligibleDeadline x = States.allGone();
        x.join(1, 8);
        int[] order = {1, 1, 0, 1};
        for (int back = 0; back < 4; back++) {
            Due.is("ranAt(" + back + ")", x.ranAt(back), order[back]);
        }
        x.run(2);
        Due.is("ranAt(1), the first since", x.ranAt(1), 1);
        Due.is("ranAt(4), before it left", x.ranAt(4), 0);
        Due.is("ranAt(5), before it left", x.ranAt(5), 1);
    }

    private static void ranAtChangesNothing() {
        Unchanged.byAskingInEveryState("ranAt of many", x -> {
            for (int back = -2; back <= 140; back++) {
                x.ranAt(back);
            }
            x.ranAt(Integer.MIN_VALUE);
            x.ranAt(Integer.MAX_VALUE);
        });
    }
}
