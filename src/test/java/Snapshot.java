/** All that can be asked of an object, as one text, to see whether a call has changed anything. */
final class Snapshot {
    private Snapshot() {
    }

    static String of(EligibleDeadline x) {
        StringBuilder text = new StringBuilder();
        text.append("next ").append(x.next()).append(" eligible ").append(x.eligible());
        text.append(" weight ").append(x.totalWeight()).append(" clock ").append(x.clock());
        for (int client = 0; client < 32; client++) {
            text.append(' ').append(ofClient(x, client));
        }
        text.append(" log");
        for (int back = 0; back < 64; back++) {
            text.append(' ').append(x.ranAt(back));
        }
        return text.toString();
    }

    static String ofClient(EligibleDeadline x, int client) {
        return client + "[" + x.weight(client) + " " + x.lag(client) + " " + x.deadline(client) + " "
            + x.served(client) + " " + x.leaving(client) + "]";
    }
}
