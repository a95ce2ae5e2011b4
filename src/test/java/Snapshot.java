/** All that can be asked of an object, as one text, to see whether a call has changed anything. */
final class Snapshot {
    private Snapshot() {
    }

    static String of(EligibleDeadline x) {
        StringBuilder text = new StringBuilder();
        text.append("next ").append(x.next()).append(" eligible ").append(x.eligible());
        text.append(" weight ").append(x.totalWeight()).append(" clock ").append(x.clock());
        for (int client = 0; client < 32; client++) {
            text.append(' ').append(ofClient(x, client));
        }
        return text.append(" log").append(ofLog(x)).toString();
    }

    static String ofClient(EligibleDeadline x, int client) {
        return client + "[" + x.weight(client) + " " + x.lag(client) + " " + x.deadline(client) + " "
            + x.served(client) + " " + x.leaving(client) + "]";
    }

    /** What ofClient tells of a present client that is as given. */
    static String due(int client, int weight, long advance, int served, boolean leaving) {
        long lag = -(weight * advance);
        long deadline = advance + States.UNIT / weight;
        return client + "[" + weight + " " + lag + " " + deadline + " " + served + " " + leaving + "]";
    }

    /** What ofClient tells of a client that is bad or absent. */
    static String dueOfNobody(int client) {
        return client + "[0 1000000000000000000 1000000000000000000 -1 false]";
    }

    /** The log alone, the most recent quantum first. */
    static String ofLog(EligibleDeadline x) {
        StringBuilder text = new StringBuilder();
        for (int back = 0; back < 64; back++) {
            text.append(' ').append(x.ranAt(back));
        }
        return text.toString();
    }
}
