/** Promises 10 to 14, each sentence with a test of its own: what is asked of one client. */
public final class ClientTest {
    private static final long UNIT = States.UNIT;
    private static final long NO_VALUE = 1000000000000000000L;

    private interface Question {
        long ask(EligibleDeadline x, int client);
    }

    private static final Question LAG = (x, client) -> x.lag(client);
    private static final Question DEADLINE = (x, client) -> x.deadline(client);
    private static final Question WEIGHT = (x, client) -> x.weight(client);
    private static final Question SERVED = (x, client) -> x.served(client);
    private static final Question LEAVING = (x, client) -> x.leaving(client) ? 1 : 0;

    public static void main(String[] args) {
        Due.sentence("10: lag answers -(weight * advance) for a present client", ClientTest::lagOfPresent);
        Due.sentence("10: marked or not", ClientTest::lagMarked);
        Due.sentence("10: positive for a client behind the mean", ClientTest::lagBehind);
        Due.sentence("10: negative for one beyond it", ClientTest::lagBeyond);
        Due.sentence("10: 0 at advance 0", ClientTest::lagAtTheMean);
        Due.sentence("10: NO_VALUE if the client is bad", () -> ofEveryBad("lag", LAG, NO_VALUE));
        Due.sentence("10: NO_VALUE if the client is absent", () -> ofEveryAbsent("lag", LAG, NO_VALUE));
        Due.sentence("10: changes nothing", () -> changesNothing("lag", LAG));
        Due.sentence("11: deadline answers advance + UNIT / weight for a present client", ClientTest::deadlineOfPresent);
        Due.sentence("11: marked or not", ClientTest::deadlineMarked);
        Due.sentence("11: eligible or not", ClientTest::deadlineEligibleOrNot);
        Due.sentence("11: NO_VALUE if the client is bad", () -> ofEveryBad("deadline", DEADLINE, NO_VALUE));
        Due.sentence("11: NO_VALUE if the client is absent", () -> ofEveryAbsent("deadline", DEADLINE, NO_VALUE));
        Due.sentence("11: changes nothing", () -> changesNothing("deadline", DEADLINE));
        Due.sentence("12: the weight of a present client, the least to the greatest", ClientTest::weightOfPresent);
        Due.sentence("12: 0 if the client is bad", () -> ofEveryBad("weight", WEIGHT, 0));
        Due.sentence("12: 0 if the client is absent", () -> ofEveryAbsent("weight", WEIGHT, 0));
        Due.sentence("12: changes nothing", () -> changesNothing("weight", WEIGHT));
        Due.sentence("13: served answers the quanta given to a present client", ClientTest::servedOfPresent);
        Due.sentence("13: since it last joined", ClientTest::servedSinceItLastJoined);
        Due.sentence("13: 0 if it has been given none since", ClientTest::servedNone);
        Due.sentence("13: up to the whole horizon", ClientTest::servedAll);
        Due.sentence("13: NONE if the client is bad", () -> ofEveryBad("served", SERVED, EligibleDeadline.NONE));
        Due.sentence("13: NONE if the client is absent", () -> ofEveryAbsent("served", SERVED, EligibleDeadline.NONE));
        Due.sentence("13: changes nothing", () -> changesNothing("served", SERVED));
        Due.sentence("14: leaving answers true exactly if present and marked", ClientTest::leavingExactly);
        Due.sentence("14: true if the client is present and marked", ClientTest::leavingOfMarked);
        Due.sentence("14: false for a bad client", () -> ofEveryBad("leaving", LEAVING, 0));
        Due.sentence("14: false for an absent one", () -> ofEveryAbsent("leaving", LEAVING, 0));
        Due.sentence("14: false for a present one without the mark", ClientTest::leavingOfUnmarked);
        Due.sentence("14: changes nothing", () -> changesNothing("leaving", LEAVING));
        Due.end();
    }

    private static void ofEveryBad(String call, Question question, long due) {
        for (int bad : States.BAD_CLIENTS) {
            Due.is(call + "(" + bad + ")", question.ask(States.twoMarked(), bad), due);
        }
        for (int clients = 1; clients <= 32; clients++) {
            EligibleDeadline x = new EligibleDeadline(clients, 36, 10);
            x.join(clients - 1, 36);
            Due.is(call + "(" + clients + ") of " + clients, question.ask(x, clients), due);
            Due.is(call + "(-1) of " + clients, question.ask(x, -1), due);
        }
    }

    private static void ofEveryAbsent(String call, Question question, long due) {
        for (int client = 0; client < States.CLIENTS; client++) {
            Due.is(call + " at the start", question.ask(States.empty(), client), due);
            Due.is(call + " of one gone", question.ask(States.allGone(), client), due);
            Due.is(call + " of one left", question.ask(States.emptyAtHorizon(), client), due);
        }
        Due.is(call + " beside present ones", question.ask(States.allWeightTaken(), States.ABSENT_CLIENT), due);
        Due.is(call + " beside marked ones", question.ask(States.twoMarked(), States.ABSENT_CLIENT), due);
    }

    private static void changesNothing(String call, Question question) {
        Unchanged.byAskingInEveryState(call + " of every client, good and bad", x -> {
            for (int client = -2; client <= 34; client++) {
                question.ask(x, client);
            }
            question.ask(x, Integer.MIN_VALUE);
            question.ask(x, Integer.MAX_VALUE);
        });
    }

    private interface PresentClient {
        void check(EligibleDeadline x, int client, int weight, long advance);
    }

    // All join at once, so an advance is the quanta that the client was given, times its step, minus
    // all quanta, times UNIT / 17.
    private static void afterEachOf100Quanta(PresentClient present) {
        int[] weights = {2, 3, 5, 7};
        EligibleDeadline x = States.joined(weights);
        int[] given = new int[4];
        for (int quanta = 1; quanta <= 100; quanta++) {
            x.run(1);
            given[x.ranAt(0)]++;
            for (int client = 0; client < 4; client++) {
                long advance = given[client] * (UNIT / weights[client]) - quanta * (UNIT / 17);
                present.check(x, client, weights[client], advance);
            }
        }
    }

    private static void lagOfPresent() {
        afterEachOf100Quanta((x, client, weight, advance) ->
            Due.is("lag(" + client + ") after " + x.clock(), x.lag(client), -(weight * advance)));
    }

    private static void deadlineOfPresent() {
        afterEachOf100Quanta((x, client, weight, advance) ->
            Due.is("deadline(" + client + ") after " + x.clock(), x.deadline(client), advance + UNIT / weight));
    }

    private static void servedOfPresent() {
        int[] given = new int[4];
        EligibleDeadline x = States.joined(2, 3, 5, 7);
        for (int quanta = 1; quanta <= 100; quanta++) {
            given[x.next()]++;
            x.run(1);
            for (int client = 0; client < 4; client++) {
                Due.is("served(" + client + ") after " + quanta, x.served(client), given[client]);
            }
        }
    }

    private static void leavingExactly() {
        Mixed.inEachState((when, maker) -> {
            for (int client = -1; client <= States.CLIENTS; client++) {
                boolean marked = maker.get().stay(client) == EligibleDeadline.OK;
                Due.is("leaving(" + client + ")" + when, maker.get().leaving(client), marked);
            }
        });
    }

    private static void lagMarked() {
        EligibleDeadline x = States.twoMarked();
        Due.is("lag(0)", x.lag(0), UNIT / 4);
        Due.is("lag(1)", x.lag(1), -UNIT / 4);
    }

    private static void lagBehind() {
        Due.is("lag(0)", States.twoAfter(1).lag(0), UNIT / 4);
        Due.is("lag(1), weight 3", States.twoAfter(2).lag(1), UNIT / 2);
    }

    private static void lagBeyond() {
        Due.is("lag(0)", States.twoAfter(2).lag(0), -UNIT / 2);
        Due.is("lag(1), weight 3", States.twoAfter(1).lag(1), -UNIT / 4);
    }

    private static void lagAtTheMean() {
        Due.is("lag(0) just joined", States.joined(1, 3).lag(0), 0);
        Due.is("lag(1) after a round", States.twoAfter(4).lag(1), 0);
        Due.is("lag(2) joined later", States.allWeightTaken().lag(2), 0);
    }

    private static void deadlineMarked() {
        EligibleDeadline x = States.twoMarked();
        Due.is("deadline(0)", x.deadline(0), UNIT - UNIT / 4);
        Due.is("deadline(1)", x.deadline(1), UNIT / 12 + UNIT / 3);
    }

    private static void deadlineEligibleOrNot() {
        Due.is("deadline(0), behind", States.twoAfter(1).deadline(0), UNIT - UNIT / 4);
        Due.is("deadline(1), beyond", States.twoAfter(1).deadline(1), UNIT / 12 + UNIT / 3);
        Due.is("deadline(0), beyond", States.twoAfter(2).deadline(0), UNIT / 2 + UNIT);
        for (int weight = 1; weight <= 36; weight++) {
            Due.is("deadline(0) at advance 0", States.joined(weight).deadline(0), UNIT / weight);
        }
    }

    private static void weightOfPresent() {
        for (int weight = 1; weight <= 36; weight++) {
            Due.is("weight(0)", States.joined(weight).weight(0), weight);
        }
        Due.is("weight(1), marked", States.twoMarked().weight(1), 3);
    }

    private static void servedSinceItLastJoined() {
        EligibleDeadline x = States.twoAfter(4);
        Due.is("served(1)", x.served(1), 3);
        x.leave(1);
        x.join(1, 3);
        x.run(4);
        Due.is("served(1), joined again", x.served(1), 3);
        Due.is("served(0), which stayed", x.served(0), 2);
    }

    private static void servedNone() {
        Due.is("served(0) just joined", States.joined(1, 3).served(0), 0);
        Due.is("served(0) while 1 ran", States.twoAfter(1).served(0), 0);
        Due.is("served(0) marked", States.twoMarked().served(0), 0);
        EligibleDeadline x = States.allGone();
        x.join(1, 3);
        Due.is("served(1) joined again", x.served(1), 0);
    }

    private static void servedAll() {
        EligibleDeadline x = new EligibleDeadline(1, 1, 30000);
        x.join(0, 1);
        for (int calls = 0; calls < 500; calls++) {
            x.run(60);
        }
        Due.is("served(0)", x.served(0), 30000);
    }

    private static void leavingOfMarked() {
        EligibleDeadline x = States.twoMarked();
        Due.is("leaving(0)", x.leaving(0), true);
        Due.is("leaving(1)", x.leaving(1), true);
        x.run(2);
        Due.is("leaving(0) before lag 0", x.leaving(0), true);
        Due.is("leaving(1) at the horizon", States.markedAtHorizon().leaving(1), true);
    }

    private static void leavingOfUnmarked() {
        Due.is("leaving(0) just joined", States.joined(1, 3).leaving(0), false);
        Due.is("leaving(0) behind the mean", States.twoAfter(1).leaving(0), false);
        EligibleDeadline x = States.twoMarked();
        x.stay(0);
        Due.is("leaving(0) after stay", x.leaving(0), false);
        EligibleDeadline again = States.allGone();
        again.join(0, 1);
        Due.is("leaving(0) joined again", again.leaving(0), false);
    }
}
