/**
 * Shares one processor among weighted clients in proportion, quantum by quantum, by earliest
 * eligible deadline. Virtual times and lags are exact whole numbers of which UNIT make one.
 */
public final class EligibleDeadline {

    public static final long UNIT = 144403552893600L;
    public static final long NO_VALUE = 1000000000000000000L;

    public static final int OK = 0;
    public static final int DEFERRED = 1;
    public static final int NONE = -1;
    public static final int BAD_CLIENT = -2;
    public static final int BAD_WEIGHT = -3;
    public static final int PRESENT = -4;
    public static final int ABSENT = -5;
    public static final int FULL = -6;
    public static final int LAGGING = -7;
    public static final int ALREADY = -8;
    public static final int NOT_LEAVING = -9;
    public static final int BAD_COUNT = -10;

    private static final int MOST_CLIENTS = 32;
    private static final int MOST_WEIGHT = 36;
    private static final int MOST_HORIZON = 30000;
    private static final int MOST_COUNT = 64;
    private static final int LOG_LENGTH = 64;

    private final int clientCount;
    private final int weightLimit;
    private final int horizon;

    // A weight of 0 stands for absence, so that whoever sees a client present has also seen
    // that its weight may divide.
    private final int[] weights = new int[MOST_CLIENTS];
    private final long[] advances = new long[MOST_CLIENTS];
    private final int[] servedCounts = new int[MOST_CLIENTS];
    private final boolean[] leavingMarks = new boolean[MOST_CLIENTS];

    // Quantum number q, counted from 0, is at q % LOG_LENGTH: only the last LOG_LENGTH are asked for.
    private final int[] log = new int[LOG_LENGTH];

    private int weightSum = 0;
    private int quantaGiven = 0;

    public EligibleDeadline(int clients, int weightLimit, int horizon) {
        this.clientCount = clamp(clients, MOST_CLIENTS);
        this.weightLimit = clamp(weightLimit, MOST_WEIGHT);
        this.horizon = clamp(horizon, MOST_HORIZON);
    }

    public int join(int client, int weight) {
        if (isBad(client)) {
            return BAD_CLIENT;
        }
        if (isPresent(client)) {
            return PRESENT;
        }
        if (isBadWeight(weight)) {
            return BAD_WEIGHT;
        }
        if (weightSum + weight > weightLimit) {
            return FULL;
        }
        weights[client] = weight;
        advances[client] = 0L;
        servedCounts[client] = 0;
        leavingMarks[client] = false;
        weightSum += weight;
        return OK;
    }

    public int leave(int client) {
        if (isBad(client)) {
            return BAD_CLIENT;
        }
        if (!isPresent(client)) {
            return ABSENT;
        }
        if (leavingMarks[client]) {
            return ALREADY;
        }
        if (advances[client] == 0L) {
            makeAbsent(client);
            return OK;
        }
        leavingMarks[client] = true;
        return DEFERRED;
    }

    public int stay(int client) {
        if (isBad(client)) {
            return BAD_CLIENT;
        }
        if (!isPresent(client)) {
            return ABSENT;
        }
        if (!leavingMarks[client]) {
            return NOT_LEAVING;
        }
        leavingMarks[client] = false;
        return OK;
    }

    public int reweigh(int client, int weight) {
        if (isBad(client)) {
            return BAD_CLIENT;
        }
        if (!isPresent(client)) {
            return ABSENT;
        }
        if (isBadWeight(weight)) {
            return BAD_WEIGHT;
        }
        if (advances[client] != 0L) {
            return LAGGING;
        }
        int newSum = weightSum - weights[client] + weight;
        if (newSum > weightLimit) {
            return FULL;
        }
        weights[client] = weight;
        weightSum = newSum;
        return OK;
    }

    public int run(int count) {
        if (count < 1 || count > MOST_COUNT) {
            return BAD_COUNT;
        }
        for (int given = 0; given < count; given++) {
            // The weighted advances sum to 0, so with a client present one is always eligible:
            // having no choice means having no client.
            int chosen = best(0L);
            if (chosen < 0 || weightSum < 1 || quantaGiven >= horizon) {
                return given;
            }
            giveQuantum(chosen);
        }
        return count;
    }

    public int next() {
        return best(0L);
    }

    public int bestWithin(long allowance) {
        return best(allowance);
    }

    public int eligible() {
        int found = 0;
        for (int i = 0; i < clientCount; i++) {
            if (isPresent(i) && advances[i] <= 0L) {
                found++;
            }
        }
        return found;
    }

    public long lag(int client) {
        if (!isPresent(client)) {
            return NO_VALUE;
        }
        return -(weights[client] * advances[client]);
    }

    public long deadline(int client) {
        if (!isPresent(client)) {
            return NO_VALUE;
        }
        return deadlineOf(client);
    }

    public int weight(int client) {
        if (!isPresent(client)) {
            return 0;
        }
        return weights[client];
    }

    public int served(int client) {
        if (!isPresent(client)) {
            return NONE;
        }
        return servedCounts[client];
    }

    public boolean leaving(int client) {
        return isPresent(client) && leavingMarks[client];
    }

    public int totalWeight() {
        return weightSum;
    }

    public int clock() {
        return quantaGiven;
    }

    public int ranAt(int back) {
        if (back < 0 || back >= LOG_LENGTH || back >= quantaGiven) {
            return NONE;
        }
        return log[(quantaGiven - 1 - back) % LOG_LENGTH];
    }

    private static int clamp(int value, int most) {
        if (value < 1) {
            return 1;
        }
        return value > most ? most : value;
    }

    private boolean isBad(int client) {
        return client < 0 || client >= clientCount;
    }

    private boolean isPresent(int client) {
        return !isBad(client) && weights[client] > 0;
    }

    private boolean isBadWeight(int weight) {
        return weight < 1 || weight > weightLimit;
    }

    private long deadlineOf(int client) {
        return advances[client] + UNIT / weights[client];
    }

    // join sets all the rest anew, so nothing of this presence can come back.
    private void makeAbsent(int client) {
        weightSum -= weights[client];
        weights[client] = 0;
    }

    private int best(long allowance) {
        int chosen = NONE;
        long earliest = 0L;
        for (int i = 0; i < clientCount; i++) {
            if (isPresent(i) && advances[i] <= allowance) {
                long due = deadlineOf(i);
                // Names are met in rising order, so a tie stays with the least.
                if (chosen < 0 || due < earliest) {
                    chosen = i;
                    earliest = due;
                }
            }
        }
        return chosen;
    }

    private void giveQuantum(int chosen) {
        advances[chosen] += UNIT / weights[chosen];
        servedCounts[chosen]++;
        moveMean();
        log[quantaGiven % LOG_LENGTH] = chosen;
        quantaGiven++;
        removeSettledLeavers();
    }

    private void moveMean() {
        long meanStep = UNIT / weightSum;
        for (int i = 0; i < clientCount; i++) {
            if (isPresent(i)) {
                advances[i] -= meanStep;
            }
        }
    }

    private void removeSettledLeavers() {
        for (int i = 0; i < clientCount; i++) {
            if (isPresent(i) && leavingMarks[i] && advances[i] == 0L) {
                makeAbsent(i);
            }
        }
    }
}
