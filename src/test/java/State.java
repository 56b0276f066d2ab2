import java.util.function.Supplier;

/**
 * The whole state of a store as text, as far as its calls tell it. Each look has a store of its own,
 * made in the same way, so that none disturbs the next and no store is used for more than 512 calls.
 */
final class State {
    private static final int VERSIONS = 40;

    private State() {
    }

    static String of(Supplier<CausalStore> make) {
        StringBuilder text = new StringBuilder();
        addVersions(text, make.get());
        addCounts(text, make.get());
        for (int version = 0; version < VERSIONS; version++) {
            addDependencies(text, make.get(), version);
        }
        for (int number = 0; number < 3; number++) {
            addWhatHasCome(text, make.get(), number);
            addReads(text, make.get(), number);
            addNextWrite(text, make.get(), number);
            for (int centre = 0; centre < 3; centre++) {
                text.append(" move").append(number).append(centre).append('=').append(make.get().move(number, centre));
            }
        }
        return text.toString();
    }

    private static void addVersions(StringBuilder text, CausalStore x) {
        for (int version = 0; version <= VERSIONS; version++) {
            text.append(" v").append(version).append('=').append(x.value(version)).append('/').append(x.stamp(version));
            addWhereVisible(text, x, version);
        }
    }

    private static void addWhereVisible(StringBuilder text, CausalStore x, int version) {
        for (int centre = 0; centre < 3; centre++) {
            text.append(x.visible(version, centre) ? '+' : '-');
        }
    }

    private static void addCounts(StringBuilder text, CausalStore x) {
        for (int number = 0; number < 3; number++) {
            text.append(" held=").append(x.held(number)).append(" seen=").append(x.seen(number));
            text.append(" agree=").append(x.agree(number, (number + 1) % 3)).append(" winners=");
            for (int key = 0; key < 6; key++) {
                text.append(x.winner(number, key)).append(',');
            }
        }
    }

    private static void addDependencies(StringBuilder text, CausalStore x, int version) {
        text.append(" d").append(version).append('=');
        for (int other = 0; other < VERSIONS; other++) {
            text.append(x.depends(version, other) ? '+' : '-');
        }
    }

    private static void addWhatHasCome(StringBuilder text, CausalStore x, int centre) {
        text.append(" come").append(centre).append('=');
        for (int version = 0; version < VERSIONS; version++) {
            text.append(x.deliver(version, centre)).append(',');
        }
    }

    private static void addReads(StringBuilder text, CausalStore x, int client) {
        text.append(" reads").append(client).append('=');
        for (int key = 0; key < 6; key++) {
            text.append(x.read(client, key)).append(',');
        }
    }

    // Tells the next number, where the client is, which versions it has seen, and whether the new
    // version had come to a centre before it was there.
    private static void addNextWrite(StringBuilder text, CausalStore x, int client) {
        int version = x.write(client, 0, 1);
        text.append(" write").append(client).append('=').append(version).append('/').append(x.stamp(version));
        addWhereVisible(text, x, version);
        addDependencies(text, x, version);
        for (int centre = 0; centre < 3; centre++) {
            text.append('/').append(x.deliver(version, centre));
        }
    }
}
