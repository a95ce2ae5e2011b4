import java.math.BigInteger;
import java.util.ArrayList;
import java.util.List;
import java.util.TreeMap;

/**
 * The document told a second time, from the virtual times themselves: a client's virtual time is
 * kept, the mean is worked out anew at each question, and the advance is their difference. The
 * class keeps advances instead, so a slip in one of the two does not repeat in the other.
 */
final class Model {
    private static final BigInteger UNIT = BigInteger.valueOf(144403552893600L);

    private static final class Client {
        int weight;
        int served;
        boolean leaving;
        BigInteger virtualTime;
    }

    private final int clients;
    private final int weightLimit;
    private final int horizon;
    private final TreeMap<Integer, Client> present = new TreeMap<>();
    private final List<Integer> history = new ArrayList<>();
    private BigInteger lastMean = BigInteger.ZERO;

    Model(int clients, int weightLimit, int horizon) {
        this.clients = Math.max(1, Math.min(32, clients));
        this.weightLimit = Math.max(1, Math.min(36, weightLimit));
        this.horizon = Math.max(1, Math.min(30000, horizon));
    }

    int join(int name, int weight) {
        if (isBad(name)) return -2;
        if (present.containsKey(name)) return -4;
        if (isBadWeight(weight)) return -3;
        if (totalWeight() + weight > weightLimit) return -6;
        Client client = new Client();
        client.weight = weight;
        client.virtualTime = mean();
        present.put(name, client);
        return 0;
    }

    int leave(int name) {
        if (isBad(name)) return -2;
        if (!present.containsKey(name)) return -5;
        if (present.get(name).leaving) return -8;
        if (advance(name) != 0) {
            present.get(name).leaving = true;
            return 1;
        }
        lastMean = mean();
        present.remove(name);
        return 0;
    }

    int stay(int name) {
        if (isBad(name)) return -2;
        if (!present.containsKey(name)) return -5;
        if (!present.get(name).leaving) return -9;
        present.get(name).leaving = false;
        return 0;
    }

    int reweigh(int name, int weight) {
        if (isBad(name)) return -2;
        if (!present.containsKey(name)) return -5;
        if (isBadWeight(weight)) return -3;
        if (advance(name) != 0) return -7;
        if (totalWeight() - present.get(name).weight + weight > weightLimit) return -6;
        present.get(name).weight = weight;
        return 0;
    }

    int run(int count) {
        if (count < 1 || count > 64) return -10;
        int given = 0;
        while (given < count && !present.isEmpty() && history.size() < horizon) {
            giveQuantum();
            given++;
        }
        return given;
    }

    private void giveQuantum() {
        int name = bestWithin(0);
        Client chosen = present.get(name);
        chosen.virtualTime = chosen.virtualTime.add(exactly(UNIT, chosen.weight));
        chosen.served++;
        history.add(name);
        List<Integer> settled = new ArrayList<>();
        for (int each : present.keySet()) {
            if (present.get(each).leaving && advance(each) == 0) settled.add(each);
        }
        lastMean = mean();
        present.keySet().removeAll(settled);
    }

    int bestWithin(long allowance) {
        int chosen = -1;
        for (int name : present.descendingKeySet()) {
            boolean within = advance(name) <= allowance;
            if (within && (chosen < 0 || deadline(name) <= deadline(chosen))) chosen = name;
        }
        return chosen;
    }

    int eligible() {
        int found = 0;
        for (int name : present.keySet()) {
            if (advance(name) <= 0) found++;
        }
        return found;
    }

    long lag(int name) {
        if (!present.containsKey(name)) return 1000000000000000000L;
        return -present.get(name).weight * advance(name);
    }

    long deadline(int name) {
        if (!present.containsKey(name)) return 1000000000000000000L;
        return advance(name) + exactly(UNIT, present.get(name).weight).longValueExact();
    }

    int weight(int name) {
        return present.containsKey(name) ? present.get(name).weight : 0;
    }

    int served(int name) {
        return present.containsKey(name) ? present.get(name).served : -1;
    }

    boolean leaving(int name) {
        return present.containsKey(name) && present.get(name).leaving;
    }

    int totalWeight() {
        int sum = 0;
        for (Client client : present.values()) sum += client.weight;
        return sum;
    }

    int clock() {
        return history.size();
    }

    int ranAt(int back) {
        if (back < 0 || back > 63 || back >= history.size()) return -1;
        return history.get(history.size() - 1 - back);
    }

    long advance(int name) {
        return present.get(name).virtualTime.subtract(mean()).longValueExact();
    }

    private BigInteger mean() {
        if (present.isEmpty()) return lastMean;
        BigInteger sum = BigInteger.ZERO;
        for (Client client : present.values()) {
            sum = sum.add(client.virtualTime.multiply(BigInteger.valueOf(client.weight)));
        }
        return exactly(sum, totalWeight());
    }

    private static BigInteger exactly(BigInteger dividend, int divisor) {
        BigInteger[] parts = dividend.divideAndRemainder(BigInteger.valueOf(divisor));
        if (parts[1].signum() != 0) throw new ArithmeticException("a division is not exact");
        return parts[0];
    }

    private boolean isBad(int name) {
        return name < 0 || name >= clients;
    }

    private boolean isBadWeight(int weight) {
        return weight < 1 || weight > weightLimit;
    }
}
