/** Promises 3 and 4, each sentence with a test of its own: leave and stay. */
public final class LeaveTest {
    private static final long UNIT = States.UNIT;

    public static void main(String[] args) {
        Due.sentence("3.1: bad client: BAD_CLIENT", LeaveTest::leaveBadClient);
        Due.sentence("3.2: absent: ABSENT", LeaveTest::leaveAbsent);
        Due.sentence("3.3: already marked as leaving: ALREADY", LeaveTest::leaveAlready);
        Due.sentence("3.4: its advance is 0: it becomes absent at once", LeaveTest::leaveAtOnce);
        Due.sentence("3.4: W falls by its weight", LeaveTest::leaveGivesItsWeightBack);
        Due.sentence("3.4: the advances of the others do not change", LeaveTest::leaveKeepsTheOthers);
        Due.sentence("3.4: the last client leaves too", LeaveTest::leaveOfTheLast);
        Due.sentence("3.5: its advance is not 0: DEFERRED", LeaveTest::leaveDeferred);
        Due.sentence("3.5: nothing else changes", LeaveTest::leaveDeferredChangesTheMarkAlone);
        Due.sentence("3: a marked client goes on competing exactly as before", LeaveTest::markedGoesOnCompeting);
        Due.sentence("3: until step 5 of some quantum makes it absent", LeaveTest::markedUntilLagZero);
        Due.sentence("3: or stay takes the mark away", LeaveTest::markedUntilStay);
        Due.sentence("3: the clock and the log do not change by this call", LeaveTest::leaveKeepsClockAndLog);
        Due.sentence("3: leave at the horizon", LeaveTest::leaveAtTheHorizon);
        Due.sentence("4.1: bad client: BAD_CLIENT", LeaveTest::stayBadClient);
        Due.sentence("4.2: absent: ABSENT", LeaveTest::stayAbsent);
        Due.sentence("4.3: not marked as leaving: NOT_LEAVING", LeaveTest::stayNotLeaving);
        Due.sentence("4.4: the mark is taken away and nothing else changes", LeaveTest::stayTakesTheMarkAlone);
        Due.sentence("4: afterwards it is present and unmarked", LeaveTest::stayedIsUnmarked);
        Due.sentence("4: a later leave treats it as such, advance not 0", LeaveTest::stayedLeavesLater);
        Due.sentence("4: a later leave treats it as such, advance 0", LeaveTest::stayedLeavesAtOnce);
        Due.end();
    }

    private static void leaveBadClient() {
        for (int bad : States.BAD_CLIENTS) {
            Unchanged.refusedInEveryState("leave(" + bad + ")", x -> x.leave(bad), EligibleDeadline.BAD_CLIENT);
        }
    }

    private static void leaveAbsent() {
        Unchanged.refusedInEveryState("leave(5)", x -> x.leave(States.ABSENT_CLIENT), EligibleDeadline.ABSENT);
        Unchanged.refused("leave of one gone", States::allGone, x -> x.leave(0), EligibleDeadline.ABSENT);
        Unchanged.refused("leave of one left", States::emptyAtHorizon, x -> x.leave(1), EligibleDeadline.ABSENT);
    }

    private static void leaveAlready() {
        Unchanged.refused("leave behind the mean", States::twoMarked, x -> x.leave(0), EligibleDeadline.ALREADY);
        Unchanged.refused("leave beyond the mean", States::twoMarked, x -> x.leave(1), EligibleDeadline.ALREADY);
        Unchanged.refused("leave at the horizon", States::markedAtHorizon, x -> x.leave(1), EligibleDeadline.ALREADY);
        EligibleDeadline x = States.twoMarked();
        x.run(2);
        Due.is("leave two quanta later", x.leave(0), EligibleDeadline.ALREADY);
    }

    private static void leaveAtOnce() {
        EligibleDeadline fresh = States.joined(1, 3);
        Due.is("leave just after join", fresh.leave(1), EligibleDeadline.OK);
        Due.same("client 1", Snapshot.ofClient(fresh, 1), Snapshot.dueOfNobody(1));
        EligibleDeadline round = States.twoAfter(4);
        Due.is("leave after a whole round", round.leave(0), EligibleDeadline.OK);
        Due.same("client 0", Snapshot.ofClient(round, 0), Snapshot.dueOfNobody(0));
        Due.is("next", round.next(), 1);
        Due.is("eligible", round.eligible(), 1);
        Due.is("leave once more", round.leave(0), EligibleDeadline.ABSENT);
    }

    private static void leaveGivesItsWeightBack() {
        EligibleDeadline x = States.allWeightTaken();
        Due.is("leave(2)", x.leave(2), EligibleDeadline.OK);
        Due.is("totalWeight", x.totalWeight(), 4);
        Due.is("join beyond the room", x.join(5, 33), EligibleDeadline.FULL);
        Due.is("join in the room", x.join(5, 32), EligibleDeadline.OK);
    }

    private static void leaveKeepsTheOthers() {
        EligibleDeadline x = States.twoAfter(1);
        x.leave(0);
        x.join(2, 32);
        Due.is("leave(2)", x.leave(2), EligibleDeadline.OK);
        Due.same("the marked one behind", Snapshot.ofClient(x, 0), Snapshot.due(0, 1, -UNIT / 4, 0, true));
        Due.same("the one beyond", Snapshot.ofClient(x, 1), Snapshot.due(1, 3, UNIT / 12, 1, false));
    }

    private static void leaveOfTheLast() {
        EligibleDeadline x = States.joined(36);
        x.run(7);
        Due.is("leave of the only one", x.leave(0), EligibleDeadline.OK);
        Due.is("totalWeight", x.totalWeight(), 0);
        Due.is("next", x.next(), EligibleDeadline.NONE);
        Due.is("run(1)", x.run(1), 0);
        Due.is("clock", x.clock(), 7);
    }

    private static void leaveDeferred() {
        EligibleDeadline x = States.twoAfter(1);
        Due.is("leave behind the mean", x.leave(0), EligibleDeadline.DEFERRED);
        Due.is("leave beyond the mean", x.leave(1), EligibleDeadline.DEFERRED);
        EligibleDeadline heavy = States.joined(35, 1);
        heavy.run(35);
        Due.is("lag(1), the last but 0", heavy.lag(1), -UNIT / 36);
        Due.is("leave a quantum before lag 0", heavy.leave(1), EligibleDeadline.DEFERRED);
    }

    private static void leaveDeferredChangesTheMarkAlone() {
        EligibleDeadline marked = States.twoAfter(1);
        String before = Snapshot.of(marked);
        marked.leave(0);
        Due.is("leaving(0)", marked.leaving(0), true);
        Due.same("all with 0 marked", Snapshot.of(marked), before.replaceFirst("false", "true"));
        marked.leave(1);
        Due.is("leaving(1)", marked.leaving(1), true);
        Due.is("totalWeight", marked.totalWeight(), 4);
        Due.is("the weight still counts", marked.join(5, 33), EligibleDeadline.FULL);
    }

    // The sum of these weights is a prime, so no lag is 0 before the whole round is over.
    private static void markedGoesOnCompeting() {
        EligibleDeadline marked = States.joined(2, 3, 8);
        EligibleDeadline free = States.joined(2, 3, 8);
        marked.run(1);
        free.run(1);
        for (int client = 0; client < 3; client++) {
            Due.is("leave(" + client + ")", marked.leave(client), EligibleDeadline.DEFERRED);
        }
        for (int quanta = 2; quanta < 13; quanta++) {
            Due.is("next of the marked", marked.next(), free.next());
            Due.is("run(1) of the marked", marked.run(1), free.run(1));
            Due.same("the marked after " + quanta, Snapshot.of(marked).replace("true", "false"), Snapshot.of(free));
        }
    }

    private static void markedUntilLagZero() {
        EligibleDeadline x = States.twoAfter(1);
        x.leave(0);
        Due.is("run(1)", x.run(1), 1);
        Due.same("gone past the mean, still there", Snapshot.ofClient(x, 0), Snapshot.due(0, 1, UNIT / 2, 1, true));
        Due.is("run(1)", x.run(1), 1);
        Due.same("not yet at the mean", Snapshot.ofClient(x, 0), Snapshot.due(0, 1, UNIT / 4, 1, true));
        Due.is("run(1)", x.run(1), 1);
        Due.same("at the mean, gone", Snapshot.ofClient(x, 0), Snapshot.dueOfNobody(0));
    }

    private static void markedUntilStay() {
        EligibleDeadline x = States.twoAfter(1);
        x.leave(0);
        x.run(2);
        Due.is("stay(0) a quantum before lag 0", x.stay(0), EligibleDeadline.OK);
        Due.is("run(1)", x.run(1), 1);
        Due.same("at lag 0, still there", Snapshot.ofClient(x, 0), Snapshot.due(0, 1, 0, 1, false));
    }

    private static void leaveKeepsClockAndLog() {
        EligibleDeadline x = States.logWrapped();
        String log = Snapshot.ofLog(x);
        x.join(5, 2);
        Due.is("leave(5)", x.leave(5), EligibleDeadline.OK);
        Due.is("leave(0)", x.leave(0), EligibleDeadline.DEFERRED);
        Due.is("clock", x.clock(), 131);
        Due.same("log", Snapshot.ofLog(x), log);
    }

    private static void leaveAtTheHorizon() {
        EligibleDeadline x = States.atHorizon();
        Due.is("leave(0)", x.leave(0), EligibleDeadline.DEFERRED);
        Due.is("run(64)", x.run(64), 0);
        Due.is("leaving(0), for there is no quantum more", x.leaving(0), true);
        Due.is("stay(0)", x.stay(0), EligibleDeadline.OK);
        Due.is("leaving(0)", x.leaving(0), false);
        x.join(5, 2);
        Due.is("leave(5)", x.leave(5), EligibleDeadline.OK);
    }

    private static void stayBadClient() {
        for (int bad : States.BAD_CLIENTS) {
            Unchanged.refusedInEveryState("stay(" + bad + ")", x -> x.stay(bad), EligibleDeadline.BAD_CLIENT);
        }
    }

    private static void stayAbsent() {
        Unchanged.refusedInEveryState("stay(5)", x -> x.stay(States.ABSENT_CLIENT), EligibleDeadline.ABSENT);
        Unchanged.refused("stay of one gone by its mark", States::allGone, x -> x.stay(0), EligibleDeadline.ABSENT);
        Unchanged.refused("stay of one left", States::emptyAtHorizon, x -> x.stay(1), EligibleDeadline.ABSENT);
    }

    private static void stayNotLeaving() {
        Unchanged.refused("stay just after join", () -> States.joined(1, 3), x -> x.stay(0), EligibleDeadline.NOT_LEAVING);
        Unchanged.refused("stay behind the mean", () -> States.twoAfter(1), x -> x.stay(0), EligibleDeadline.NOT_LEAVING);
        Unchanged.refused("stay beyond the mean", () -> States.twoAfter(1), x -> x.stay(1), EligibleDeadline.NOT_LEAVING);
        EligibleDeadline x = States.twoMarked();
        x.stay(0);
        Due.is("stay a second time", x.stay(0), EligibleDeadline.NOT_LEAVING);
        Due.is("the other is still marked", x.stay(1), EligibleDeadline.OK);
    }

    private static void stayTakesTheMarkAlone() {
        EligibleDeadline x = States.twoMarked();
        String before = Snapshot.of(x);
        Due.is("stay(0)", x.stay(0), EligibleDeadline.OK);
        Due.same("all with 0 unmarked", Snapshot.of(x), before.replaceFirst("true", "false"));
        Unchanged.by("leave(0) and stay(0)", () -> States.twoAfter(1), each -> {
            each.leave(0);
            each.stay(0);
        });
    }

    private static void stayedIsUnmarked() {
        EligibleDeadline x = States.twoMarked();
        x.stay(1);
        Due.same("client 1", Snapshot.ofClient(x, 1), Snapshot.due(1, 3, UNIT / 12, 1, false));
        x.run(3);
        Due.same("client 1 at lag 0", Snapshot.ofClient(x, 1), Snapshot.due(1, 3, 0, 3, false));
        Due.is("weight(0), which did not stay", x.weight(0), 0);
    }

    private static void stayedLeavesLater() {
        EligibleDeadline x = States.twoMarked();
        x.stay(0);
        Due.is("leave(0) once more", x.leave(0), EligibleDeadline.DEFERRED);
        Due.is("leaving(0)", x.leaving(0), true);
        Due.is("leave(0) twice more", x.leave(0), EligibleDeadline.ALREADY);
        x.run(3);
        Due.is("weight(0) at lag 0", x.weight(0), 0);
    }

    private static void stayedLeavesAtOnce() {
        EligibleDeadline x = States.twoMarked();
        x.stay(0);
        x.run(3);
        Due.is("leave(0) at lag 0", x.leave(0), EligibleDeadline.OK);
        Due.is("weight(0)", x.weight(0), 0);
    }
}
