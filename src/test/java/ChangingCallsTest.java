/** Promises 1 to 6, one by one: construction, join, leave, stay, reweigh and run. */
public final class ChangingCallsTest {
    private static final long UNIT = 144403552893600L;

    public static void main(String[] args) {
        promise1TheStart();
        promise1TooSmall();
        promise1TooLarge();
        promise1AsGiven();
        promise2Refusals();
        promise2Joining();
        promise2JoiningAgain();
        promise2JoiningAtTheHorizon();
        promise3Refusals();
        promise3LeavingAtOnce();
        promise3LeavingLater();
        promise4Refusals();
        promise4Staying();
        promise5Refusals();
        promise5Reweighing();
        promise6BadCounts();
        promise6WithoutClients();
        promise6Horizon();
        promise6OneQuantum();
        promise6Ties();
        promise6LeaversTogether();
        promise6WeightBeforeDepartures();
        promise6LastClientLeaves();
        Due.end();
    }

    private static void promise1TheStart() {
        EligibleDeadline x = new EligibleDeadline(32, 36, 100);
        for (int client = 0; client < 32; client++) {
            Due.is("weight at the start", x.weight(client), 0);
            Due.is("leave at the start", x.leave(client), EligibleDeadline.ABSENT);
        }
        Due.is("totalWeight at the start", x.totalWeight(), 0);
        Due.is("clock at the start", x.clock(), 0);
        Due.is("next at the start", x.next(), -1);
        for (int back = 0; back < 64; back++) {
            Due.is("ranAt at the start", x.ranAt(back), -1);
        }
    }

    private static void promise1TooSmall() {
        int[] small = {Integer.MIN_VALUE, -1, 0};
        for (int given : small) {
            EligibleDeadline x = new EligibleDeadline(given, given, given);
            Due.is("join(1, 1) of 1 client", x.join(1, 1), -2);
            Due.is("join(0, 2) of weight limit 1", x.join(0, 2), -3);
            Due.is("join(0, 1) of weight limit 1", x.join(0, 1), 0);
            Due.is("run(2) of horizon 1", x.run(2), 1);
        }
    }

    private static void promise1TooLarge() {
        int[][] large = {{33, 37, 30001}, {Integer.MAX_VALUE, Integer.MAX_VALUE, Integer.MAX_VALUE}, {32, 36, 30000}};
        for (int[] given : large) {
            EligibleDeadline x = new EligibleDeadline(given[0], given[1], given[2]);
            Due.is("join(32, 1) of 32 clients", x.join(32, 1), -2);
            Due.is("join(31, 37) of weight limit 36", x.join(31, 37), -3);
            Due.is("join(31, 36) of weight limit 36", x.join(31, 36), 0);
            for (int i = 0; i < 468; i++) {
                Due.is("run(64) before the horizon", x.run(64), 64);
            }
            Due.is("run(64) up to the horizon 30000", x.run(64), 48);
            Due.is("run(64) at the horizon 30000", x.run(64), 0);
            Due.is("clock at the horizon", x.clock(), 30000);
            Due.is("served at the horizon", x.served(31), 30000);
        }
    }

    private static void promise1AsGiven() {
        EligibleDeadline x = new EligibleDeadline(5, 7, 9);
        Due.is("join(5, 1) of 5 clients", x.join(5, 1), -2);
        Due.is("join(4, 8) of weight limit 7", x.join(4, 8), -3);
        Due.is("join(4, 7) of weight limit 7", x.join(4, 7), 0);
        Due.is("run(64) of horizon 9", x.run(64), 9);
    }

    private static void promise2Refusals() {
        EligibleDeadline x = twoAfterOneQuantum();
        x.leave(0);
        String before = Snapshot.of(x);
        Due.is("join(-1, 0)", x.join(-1, 0), -2);
        Due.is("join(8, 37)", x.join(8, 37), -2);
        Due.is("join(MIN, 1)", x.join(Integer.MIN_VALUE, 1), -2);
        Due.is("join(MAX, 1)", x.join(Integer.MAX_VALUE, 1), -2);
        Due.is("join of a marked client", x.join(0, 1), -4);
        Due.is("join of a present client, bad weight", x.join(1, 0), -4);
        Due.is("join of a present client, too much", x.join(1, 36), -4);
        Due.is("join(2, 0)", x.join(2, 0), -3);
        Due.is("join(2, -1)", x.join(2, -1), -3);
        Due.is("join(2, 37)", x.join(2, 37), -3);
        Due.is("join(2, MAX)", x.join(2, Integer.MAX_VALUE), -3);
        Due.is("join(2, MIN)", x.join(2, Integer.MIN_VALUE), -3);
        Due.is("join(2, 33) beside 4", x.join(2, 33), -6);
        Due.same("after refused joins", Snapshot.of(x), before);
        Due.is("join(2, 32) beside 4", x.join(2, 32), 0);
        Due.is("join(3, 1) beside 36", x.join(3, 1), -6);
    }

    private static void promise2Joining() {
        EligibleDeadline x = twoAfterOneQuantum();
        String zero = Snapshot.ofClient(x, 0);
        String one = Snapshot.ofClient(x, 1);
        Due.is("join(2, 2)", x.join(2, 2), 0);
        Due.same("client 2", Snapshot.ofClient(x, 2), "2[2 0 " + UNIT / 2 + " 0 false]");
        Due.same("client 0", Snapshot.ofClient(x, 0), zero);
        Due.same("client 1", Snapshot.ofClient(x, 1), one);
        Due.is("totalWeight", x.totalWeight(), 6);
        Due.is("clock", x.clock(), 1);
        Due.is("ranAt(0)", x.ranAt(0), 1);
        Due.is("ranAt(1)", x.ranAt(1), -1);
    }

    private static void promise2JoiningAgain() {
        EligibleDeadline x = twoAfterOneQuantum();
        Due.is("leave(1)", x.leave(1), 1);
        Due.is("run(3)", x.run(3), 3);
        Due.is("weight(1), gone", x.weight(1), 0);
        Due.is("join(1, 5)", x.join(1, 5), 0);
        Due.same("client 1 again", Snapshot.ofClient(x, 1), "1[5 0 " + UNIT / 5 + " 0 false]");
        Due.is("totalWeight", x.totalWeight(), 6);
    }

    private static void promise2JoiningAtTheHorizon() {
        EligibleDeadline x = new EligibleDeadline(4, 10, 1);
        x.join(0, 1);
        x.run(1);
        Due.is("join at the horizon", x.join(1, 4), 0);
        Due.is("next at the horizon", x.next(), 1);
        Due.is("clock at the horizon", x.clock(), 1);
    }

    private static void promise3Refusals() {
        EligibleDeadline x = twoAfterOneQuantum();
        x.leave(0);
        String before = Snapshot.of(x);
        Due.is("leave(-1)", x.leave(-1), -2);
        Due.is("leave(8)", x.leave(8), -2);
        Due.is("leave(MIN)", x.leave(Integer.MIN_VALUE), -2);
        Due.is("leave(MAX)", x.leave(Integer.MAX_VALUE), -2);
        Due.is("leave(2), absent", x.leave(2), -5);
        Due.is("leave(0), marked", x.leave(0), -8);
        Due.same("after refused leaves", Snapshot.of(x), before);
    }

    private static void promise3LeavingAtOnce() {
        EligibleDeadline x = twoAfterOneQuantum();
        x.join(2, 2);
        String zero = Snapshot.ofClient(x, 0);
        String one = Snapshot.ofClient(x, 1);
        Due.is("leave(2) at advance 0", x.leave(2), 0);
        Due.is("leave(2), gone", x.leave(2), -5);
        Due.is("totalWeight", x.totalWeight(), 4);
        Due.is("clock", x.clock(), 1);
        Due.is("ranAt(0)", x.ranAt(0), 1);
        Due.same("client 0", Snapshot.ofClient(x, 0), zero);
        Due.same("client 1", Snapshot.ofClient(x, 1), one);
        Due.same("client 2", Snapshot.ofClient(x, 2), "2[0 1000000000000000000 1000000000000000000 -1 false]");
    }

    private static void promise3LeavingLater() {
        EligibleDeadline x = twoAfterOneQuantum();
        String zero = Snapshot.ofClient(x, 0);
        String one = Snapshot.ofClient(x, 1);
        Due.is("leave(0) behind the mean", x.leave(0), 1);
        Due.is("leave(1) beyond the mean", x.leave(1), 1);
        Due.same("client 0, marked", Snapshot.ofClient(x, 0), zero.replace("false", "true"));
        Due.same("client 1, marked", Snapshot.ofClient(x, 1), one.replace("false", "true"));
        Due.is("totalWeight", x.totalWeight(), 4);
        Due.is("clock", x.clock(), 1);
        Due.is("ranAt(0)", x.ranAt(0), 1);
        Due.is("ranAt(1)", x.ranAt(1), -1);
        Due.is("run(2)", x.run(2), 2);
        Due.is("a marked client goes on competing", x.ranAt(1), 0);
        Due.is("a marked client goes on competing", x.ranAt(0), 1);
        Due.is("leaving(0)", x.leaving(0), true);
        Due.is("totalWeight", x.totalWeight(), 4);
    }

    private static void promise4Refusals() {
        EligibleDeadline x = twoAfterOneQuantum();
        x.leave(0);
        String before = Snapshot.of(x);
        Due.is("stay(-1)", x.stay(-1), -2);
        Due.is("stay(8)", x.stay(8), -2);
        Due.is("stay(MIN)", x.stay(Integer.MIN_VALUE), -2);
        Due.is("stay(MAX)", x.stay(Integer.MAX_VALUE), -2);
        Due.is("stay(2), absent", x.stay(2), -5);
        Due.is("stay(1), not marked", x.stay(1), -9);
        Due.same("after refused stays", Snapshot.of(x), before);
    }

    private static void promise4Staying() {
        EligibleDeadline x = twoAfterOneQuantum();
        String before = Snapshot.of(x);
        x.leave(0);
        x.leave(1);
        Due.is("stay(0)", x.stay(0), 0);
        Due.is("stay(1)", x.stay(1), 0);
        Due.same("after leave and stay", Snapshot.of(x), before);
        Due.is("stay(0) again", x.stay(0), -9);
        Due.is("leave(1) again", x.leave(1), 1);
        Due.is("run(3)", x.run(3), 3);
        Due.is("weight(0), stayed", x.weight(0), 1);
        Due.is("weight(1), left", x.weight(1), 0);
        Due.is("lag(0), stayed", x.lag(0), 0);
        Due.is("leave(0) at advance 0", x.leave(0), 0);
    }

    private static void promise5Refusals() {
        EligibleDeadline x = twoAfterOneQuantum();
        x.join(2, 2);
        x.leave(1);
        String before = Snapshot.of(x);
        Due.is("reweigh(-1, 0)", x.reweigh(-1, 0), -2);
        Due.is("reweigh(8, 1)", x.reweigh(8, 1), -2);
        Due.is("reweigh(MIN, 1)", x.reweigh(Integer.MIN_VALUE, 1), -2);
        Due.is("reweigh(MAX, 1)", x.reweigh(Integer.MAX_VALUE, 1), -2);
        Due.is("reweigh(3, 0), absent", x.reweigh(3, 0), -5);
        Due.is("reweigh(3, 1), absent", x.reweigh(3, 1), -5);
        Due.is("reweigh(0, 0), lagging", x.reweigh(0, 0), -3);
        Due.is("reweigh(0, 37), lagging", x.reweigh(0, 37), -3);
        Due.is("reweigh(2, MAX)", x.reweigh(2, Integer.MAX_VALUE), -3);
        Due.is("reweigh(2, MIN)", x.reweigh(2, Integer.MIN_VALUE), -3);
        Due.is("reweigh(0, 1), the weight it has", x.reweigh(0, 1), -7);
        Due.is("reweigh(1, 2), marked", x.reweigh(1, 2), -7);
        Due.is("reweigh(0, 36), lagging and too much", x.reweigh(0, 36), -7);
        Due.is("reweigh(2, 33) beside 4", x.reweigh(2, 33), -6);
        Due.same("after refused reweighs", Snapshot.of(x), before);
        Due.is("reweigh(2, 32) beside 4", x.reweigh(2, 32), 0);
        Due.is("totalWeight", x.totalWeight(), 36);
    }

    private static void promise5Reweighing() {
        EligibleDeadline x = twoAfterOneQuantum();
        x.run(3);
        String zero = Snapshot.ofClient(x, 0);
        String before = Snapshot.of(x);
        Due.is("reweigh(1, 3), the weight it has", x.reweigh(1, 3), 0);
        Due.same("after it", Snapshot.of(x), before);
        Due.is("reweigh(1, 5)", x.reweigh(1, 5), 0);
        Due.same("client 1", Snapshot.ofClient(x, 1), "1[5 0 " + UNIT / 5 + " 3 false]");
        Due.same("client 0", Snapshot.ofClient(x, 0), zero);
        Due.is("totalWeight", x.totalWeight(), 6);
        Due.is("clock", x.clock(), 4);
        Due.is("ranAt(0)", x.ranAt(0), 1);
        Due.is("reweigh(1, 1)", x.reweigh(1, 1), 0);
        Due.is("totalWeight", x.totalWeight(), 2);
    }

    private static void promise6BadCounts() {
        EligibleDeadline empty = new EligibleDeadline(2, 2, 10);
        EligibleDeadline busy = twoAfterOneQuantum();
        EligibleDeadline ended = new EligibleDeadline(2, 2, 1);
        ended.join(0, 1);
        ended.run(1);
        EligibleDeadline[] states = {empty, busy, ended};
        int[] counts = {Integer.MIN_VALUE, -1, 0, 65, Integer.MAX_VALUE};
        for (EligibleDeadline x : states) {
            String before = Snapshot.of(x);
            for (int count : counts) {
                Due.is("run(" + count + ")", x.run(count), -10);
            }
            Due.same("after bad counts", Snapshot.of(x), before);
        }
        Due.is("run(64)", busy.run(64), 64);
    }

    private static void promise6WithoutClients() {
        EligibleDeadline x = new EligibleDeadline(2, 2, 10);
        String before = Snapshot.of(x);
        Due.is("run(1) without clients", x.run(1), 0);
        Due.is("run(64) without clients", x.run(64), 0);
        Due.same("after them", Snapshot.of(x), before);
    }

    private static void promise6Horizon() {
        EligibleDeadline x = new EligibleDeadline(2, 4, 5);
        x.join(0, 1);
        x.join(1, 3);
        Due.is("run(3) of horizon 5", x.run(3), 3);
        Due.is("run(3) up to the horizon", x.run(3), 2);
        String before = Snapshot.of(x);
        Due.is("run(3) at the horizon", x.run(3), 0);
        Due.same("after it", Snapshot.of(x), before);
    }

    private static void promise6OneQuantum() {
        EligibleDeadline x = new EligibleDeadline(8, 36, 1000);
        x.join(3, 2);
        x.join(5, 4);
        x.join(6, 1);
        Due.is("run(1)", x.run(1), 1);
        Due.same("client 3", Snapshot.ofClient(x, 3), client(3, 2, -UNIT / 7, 0));
        Due.same("client 5", Snapshot.ofClient(x, 5), client(5, 4, UNIT / 4 - UNIT / 7, 1));
        Due.same("client 6", Snapshot.ofClient(x, 6), client(6, 1, -UNIT / 7, 0));
        Due.is("clock", x.clock(), 1);
        Due.is("run(1)", x.run(1), 1);
        Due.same("client 3", Snapshot.ofClient(x, 3), client(3, 2, UNIT / 2 - 2 * (UNIT / 7), 1));
        Due.same("client 5", Snapshot.ofClient(x, 5), client(5, 4, UNIT / 4 - 2 * (UNIT / 7), 1));
        Due.same("client 6", Snapshot.ofClient(x, 6), client(6, 1, -2 * (UNIT / 7), 0));
        Due.is("run(5)", x.run(5), 5);
        Due.same("client 3, whole round", Snapshot.ofClient(x, 3), client(3, 2, 0, 2));
        Due.same("client 5, whole round", Snapshot.ofClient(x, 5), client(5, 4, 0, 4));
        Due.same("client 6, whole round", Snapshot.ofClient(x, 6), client(6, 1, 0, 1));
        int[] order = {5, 3, 5, 6, 5, 3, 5};
        for (int back = 0; back < 7; back++) {
            Due.is("ranAt(" + back + ")", x.ranAt(back), order[6 - back]);
        }
    }

    private static void promise6Ties() {
        EligibleDeadline x = new EligibleDeadline(32, 36, 1000);
        int[] joined = {30, 7, 19, 0, 31};
        for (int client : joined) {
            x.join(client, 2);
        }
        x.run(5);
        int[] order = {0, 7, 19, 30, 31};
        for (int back = 0; back < 5; back++) {
            Due.is("ranAt(" + back + ") of equal weights", x.ranAt(back), order[4 - back]);
        }
    }

    // Clients 0 and 2 reach lag 0 in the same quantum, which goes to client 2.
    private static void promise6LeaversTogether() {
        EligibleDeadline x = threeBeforeTheRoundEnds();
        Due.is("leave(0)", x.leave(0), 1);
        Due.is("leave(2)", x.leave(2), 1);
        Due.is("run(1)", x.run(1), 1);
        Due.is("weight(0), gone", x.weight(0), 0);
        Due.is("weight(2), gone", x.weight(2), 0);
        Due.same("client 1", Snapshot.ofClient(x, 1), client(1, 1, 0, 1));
        Due.is("totalWeight", x.totalWeight(), 1);
        Due.is("ranAt(0), gone in its quantum", x.ranAt(0), 2);
        Due.is("run(2)", x.run(2), 2);
        Due.same("client 1 alone", Snapshot.ofClient(x, 1), client(1, 1, 0, 3));
    }

    // Client 0 leaves in the quantum, and the mean still moves by a part of the weight with it.
    private static void promise6WeightBeforeDepartures() {
        EligibleDeadline x = threeBeforeTheRoundEnds();
        Due.is("leave(0)", x.leave(0), 1);
        Due.is("run(1)", x.run(1), 1);
        Due.is("weight(0), gone", x.weight(0), 0);
        Due.is("totalWeight", x.totalWeight(), 3);
        Due.same("client 1", Snapshot.ofClient(x, 1), client(1, 1, 0, 1));
        Due.same("client 2", Snapshot.ofClient(x, 2), client(2, 2, 0, 2));
        Due.is("run(1)", x.run(1), 1);
        Due.same("client 1", Snapshot.ofClient(x, 1), client(1, 1, -UNIT / 3, 1));
        Due.same("client 2", Snapshot.ofClient(x, 2), client(2, 2, UNIT / 2 - UNIT / 3, 3));
    }

    private static void promise6LastClientLeaves() {
        EligibleDeadline x = twoAfterOneQuantum();
        x.leave(0);
        x.leave(1);
        Due.is("run(64) until the last has left", x.run(64), 3);
        Due.is("clock", x.clock(), 4);
        Due.is("next", x.next(), -1);
        Due.is("totalWeight", x.totalWeight(), 0);
        Due.is("ranAt(0), the client that ran and left", x.ranAt(0), 1);
        Due.is("run(1) afterwards", x.run(1), 0);
    }

    // Clients 0 and 1 of weight 1 are UNIT / 4 beyond the mean, client 2 of weight 2 is UNIT / 4 behind.
    private static EligibleDeadline threeBeforeTheRoundEnds() {
        EligibleDeadline x = new EligibleDeadline(3, 36, 1000);
        x.join(0, 1);
        x.join(1, 1);
        x.join(2, 2);
        Due.is("run(3)", x.run(3), 3);
        Due.same("client 0", Snapshot.ofClient(x, 0), client(0, 1, UNIT / 4, 1));
        Due.same("client 1", Snapshot.ofClient(x, 1), client(1, 1, UNIT / 4, 1));
        Due.same("client 2", Snapshot.ofClient(x, 2), client(2, 2, -UNIT / 4, 1));
        return x;
    }

    private static String client(int name, int weight, long advance, int served) {
        return name + "[" + weight + " " + -(weight * advance) + " " + (advance + UNIT / weight) + " " + served + " false]";
    }

    // Client 1 has run: client 0 is UNIT / 4 behind the mean, client 1 UNIT / 12 beyond it.
    private static EligibleDeadline twoAfterOneQuantum() {
        EligibleDeadline x = new EligibleDeadline(8, 36, 1000);
        x.join(0, 1);
        x.join(1, 3);
        x.run(1);
        return x;
    }
}
