/** Promises 7 to 17, one by one: the calls that ask and change nothing. */
public final class AskingCallsTest {
    private static final long UNIT = 144403552893600L;
    private static final long NO_VALUE = 1000000000000000000L;
    private static final int[] BAD_CLIENTS = {Integer.MIN_VALUE, -1, 4, 5, 31, 32, Integer.MAX_VALUE};

    public static void main(String[] args) {
        promise7Next();
        promise8BestWithin();
        promise8Marked();
        promise9Eligible();
        promises10To14Clients();
        promises10To14BadOrAbsent();
        promise15TotalWeight();
        promise16Clock();
        promise17RanAt();
        promise17FullLog();
        promise17NamesOfTheGone();
        nothingChanges();
        Due.end();
    }

    private static void promise7Next() {
        EligibleDeadline x = new EligibleDeadline(4, 36, 3);
        Due.is("next without clients", x.next(), -1);
        x.join(3, 2);
        x.join(2, 2);
        x.join(0, 1);
        Due.is("next of equal deadlines", x.next(), 2);
        for (int i = 0; i < 3; i++) {
            int foretold = x.next();
            x.run(1);
            Due.is("the client that next told", x.ranAt(0), foretold);
        }
        Due.is("clock", x.clock(), 3);
        Due.is("next at the horizon", x.next(), 2);
        Due.is("best at the horizon", x.bestWithin(0), 2);
    }

    private static void promise8BestWithin() {
        EligibleDeadline x = new EligibleDeadline(4, 36, 100);
        Due.is("bestWithin(MAX) without clients", x.bestWithin(Long.MAX_VALUE), -1);
        Due.is("bestWithin(MIN) without clients", x.bestWithin(Long.MIN_VALUE), -1);
        x.join(0, 1);
        x.join(1, 3);
        x.run(1);
        Due.is("bestWithin(MAX)", x.bestWithin(Long.MAX_VALUE), 1);
        Due.is("bestWithin(UNIT)", x.bestWithin(UNIT), 1);
        Due.is("bestWithin at advance(1)", x.bestWithin(UNIT / 12), 1);
        Due.is("bestWithin below advance(1)", x.bestWithin(UNIT / 12 - 1), 0);
        Due.is("bestWithin(0)", x.bestWithin(0), 0);
        Due.is("bestWithin(-1)", x.bestWithin(-1), 0);
        Due.is("bestWithin at advance(0)", x.bestWithin(-UNIT / 4), 0);
        Due.is("bestWithin below advance(0)", x.bestWithin(-UNIT / 4 - 1), -1);
        Due.is("bestWithin(MIN)", x.bestWithin(Long.MIN_VALUE), -1);
    }

    private static void promise8Marked() {
        EligibleDeadline x = oneBehindOneBeyond();
        x.leave(0);
        x.leave(1);
        Due.is("bestWithin(MAX) of marked clients", x.bestWithin(Long.MAX_VALUE), 1);
        Due.is("bestWithin(0) of marked clients", x.bestWithin(0), 0);
        Due.is("next of marked clients", x.next(), 0);
    }

    private static void promise9Eligible() {
        EligibleDeadline x = new EligibleDeadline(4, 36, 100);
        Due.is("eligible without clients", x.eligible(), 0);
        x.join(0, 1);
        x.join(1, 3);
        Due.is("eligible at advance 0", x.eligible(), 2);
        x.run(1);
        Due.is("eligible behind the mean", x.eligible(), 1);
        x.join(2, 1);
        Due.is("eligible with a new one", x.eligible(), 2);
        x.leave(0);
        Due.is("eligible, one marked", x.eligible(), 2);
    }

    private static void promises10To14Clients() {
        EligibleDeadline x = oneBehindOneBeyond();
        x.join(2, 5);
        for (int i = 0; i < 2; i++) {
            Due.is("lag behind the mean", x.lag(0), UNIT / 4);
            Due.is("lag beyond the mean", x.lag(1), -UNIT / 4);
            Due.is("lag at the mean", x.lag(2), 0);
            Due.is("deadline(0)", x.deadline(0), UNIT - UNIT / 4);
            Due.is("deadline(1)", x.deadline(1), UNIT / 3 + UNIT / 12);
            Due.is("deadline(2)", x.deadline(2), UNIT / 5);
            Due.is("weight(0)", x.weight(0), 1);
            Due.is("weight(1)", x.weight(1), 3);
            Due.is("weight(2)", x.weight(2), 5);
            Due.is("served(0)", x.served(0), 0);
            Due.is("served(1)", x.served(1), 1);
            Due.is("leaving(0)", x.leaving(0), i == 1);
            Due.is("leaving(1)", x.leaving(1), i == 1);
            Due.is("leaving(2)", x.leaving(2), false);
            x.leave(0);
            x.leave(1);
        }
        x.stay(0);
        Due.is("leaving(0) after stay", x.leaving(0), false);
    }

    private static void promises10To14BadOrAbsent() {
        EligibleDeadline x = oneBehindOneBeyond();
        x.leave(0);
        x.leave(1);
        x.run(3);
        for (int client : BAD_CLIENTS) {
            isNobody(x, client);
        }
        for (int client = 0; client < 4; client++) {
            isNobody(x, client);
        }
    }

    private static void isNobody(EligibleDeadline x, int client) {
        Due.is("lag(" + client + ")", x.lag(client), NO_VALUE);
        Due.is("deadline(" + client + ")", x.deadline(client), NO_VALUE);
        Due.is("weight(" + client + ")", x.weight(client), 0);
        Due.is("served(" + client + ")", x.served(client), -1);
        Due.is("leaving(" + client + ")", x.leaving(client), false);
    }

    private static void promise15TotalWeight() {
        EligibleDeadline x = new EligibleDeadline(4, 10, 100);
        Due.is("totalWeight without clients", x.totalWeight(), 0);
        x.join(0, 1);
        x.join(1, 3);
        x.run(1);
        x.join(2, 6);
        Due.is("totalWeight at the limit", x.totalWeight(), 10);
        x.leave(1);
        Due.is("totalWeight with a marked one", x.totalWeight(), 10);
        x.reweigh(2, 4);
        Due.is("totalWeight after reweigh", x.totalWeight(), 8);
        x.leave(2);
        Due.is("totalWeight after leave", x.totalWeight(), 4);
        x.run(3);
        Due.is("totalWeight after the marked one left", x.totalWeight(), 1);
    }

    private static void promise16Clock() {
        EligibleDeadline x = new EligibleDeadline(4, 10, 70);
        x.run(64);
        Due.is("clock after time without clients", x.clock(), 0);
        x.join(0, 2);
        x.join(1, 1);
        Due.is("clock after joins", x.clock(), 0);
        x.run(7);
        Due.is("clock after 7 quanta", x.clock(), 7);
        x.leave(0);
        x.stay(0);
        x.reweigh(1, 2);
        x.run(65);
        Due.is("clock after other calls", x.clock(), 7);
        x.run(64);
        Due.is("clock at the horizon", x.clock(), 70);
        x.run(64);
        Due.is("clock stays at the horizon", x.clock(), 70);
    }

    private static void promise17RanAt() {
        EligibleDeadline x = oneBehindOneBeyond();
        x.run(2);
        Due.is("ranAt(0)", x.ranAt(0), 1);
        Due.is("ranAt(1)", x.ranAt(1), 0);
        Due.is("ranAt(2)", x.ranAt(2), 1);
        int[] outside = {Integer.MIN_VALUE, -1, 3, 4, 63, 64, 65, Integer.MAX_VALUE};
        for (int back : outside) {
            Due.is("ranAt(" + back + ") of 3 quanta", x.ranAt(back), -1);
        }
    }

    private static void promise17FullLog() {
        EligibleDeadline x = new EligibleDeadline(32, 36, 1000);
        for (int client = 0; client < 31; client++) {
            x.join(client, 1);
        }
        // Equal weights take turns by name, so quantum q goes to client q % 31.
        int[] counts = {63, 1, 1, 64, 31, 64};
        int given = 0;
        for (int count : counts) {
            given += x.run(count);
            for (int back = 0; back < 64; back++) {
                Due.is("ranAt(" + back + ") of " + given, x.ranAt(back), back < given ? (given - 1 - back) % 31 : -1);
            }
            Due.is("ranAt(64) of " + given, x.ranAt(64), -1);
            Due.is("ranAt(MAX) of " + given, x.ranAt(Integer.MAX_VALUE), -1);
            Due.is("ranAt(-1) of " + given, x.ranAt(-1), -1);
        }
        Due.is("quanta given", given, 224);
    }

    private static void promise17NamesOfTheGone() {
        EligibleDeadline x = oneBehindOneBeyond();
        x.leave(0);
        x.leave(1);
        x.run(3);
        x.join(0, 7);
        int[] order = {1, 0, 1, 1};
        for (int back = 0; back < 4; back++) {
            Due.is("ranAt(" + back + ")", x.ranAt(back), order[3 - back]);
        }
        Due.is("served(0), joined again", x.served(0), 0);
    }

    private static void nothingChanges() {
        EligibleDeadline asked = oneBehindOneBeyond();
        EligibleDeadline unasked = oneBehindOneBeyond();
        asked.leave(1);
        unasked.leave(1);
        for (int i = 0; i < 20; i++) {
            askAll(asked);
            String before = Snapshot.of(asked);
            askAll(asked);
            Due.same("after asking", Snapshot.of(asked), before);
            asked.run(1);
            unasked.run(1);
        }
        Due.same("asked and unasked", Snapshot.of(asked), Snapshot.of(unasked));
    }

    private static void askAll(EligibleDeadline x) {
        x.next();
        x.eligible();
        x.totalWeight();
        x.clock();
        x.bestWithin(Long.MIN_VALUE);
        x.bestWithin(Long.MAX_VALUE);
        for (int number = -2; number < 70; number++) {
            x.bestWithin(number * (UNIT / 36));
            x.lag(number);
            x.deadline(number);
            x.weight(number);
            x.served(number);
            x.leaving(number);
            x.ranAt(number);
        }
    }

    // Client 1 has run: client 0 is UNIT / 4 behind the mean, client 1 UNIT / 12 beyond it.
    private static EligibleDeadline oneBehindOneBeyond() {
        EligibleDeadline x = new EligibleDeadline(4, 36, 1000);
        x.join(0, 1);
        x.join(1, 3);
        x.run(1);
        return x;
    }
}
