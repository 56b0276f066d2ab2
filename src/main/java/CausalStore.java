/** A store kept at three centres that shows writes only after all that they may depend on. */
public final class CausalStore {
    public static final int BAD_CLIENT = -1;
    public static final int BAD_KEY = -2;
    public static final int FULL = -3;
    public static final int BAD_CENTRE = -4;
    public static final int NO_VERSION = -5;
    public static final int HAS_COME = -6;
    public static final int BEHIND = -7;

    private static final int CENTRES = 3;
    private static final int CLIENTS = 3;
    private static final int KEYS = 6;
    private static final int MOST_VERSIONS = 40;

    // A set of versions is a long whose bit v stands for version v, as all forty fit in one.
    private final long[] comeTo = new long[CENTRES];
    private final long[] visibleAt = new long[CENTRES];
    private final long[] seenBy = new long[CLIENTS];
    private final long[] dependsOn = new long[MOST_VERSIONS];

    private final int[] centreOf = new int[CLIENTS];
    private final int[] keyOf = new int[MOST_VERSIONS];
    private final int[] valueOf = new int[MOST_VERSIONS];
    private final int[] stampOf = new int[MOST_VERSIONS];
    private int versions = 0;

    public CausalStore() {
        for (int client = 0; client < CLIENTS; client++) {
            centreOf[client] = client;
        }
    }

    public int write(int client, int key, int value) {
        if (!isClient(client)) {
            return BAD_CLIENT;
        }
        if (!isKey(key)) {
            return BAD_KEY;
        }
        if (versions >= MOST_VERSIONS) {
            return FULL;
        }
        int made = versions;
        int centre = centreOf[client];
        long seenBefore = seenBy[client];
        keyOf[made] = key;
        valueOf[made] = value;
        stampOf[made] = 1 + greatestStamp(seenBefore);
        dependsOn[made] = seenBefore;
        seenBy[client] = seenBefore | only(made);
        comeTo[centre] |= only(made);
        versions++;
        showReady(centre);
        return made;
    }

    public int read(int client, int key) {
        if (!isClient(client)) {
            return BAD_CLIENT;
        }
        if (!isKey(key)) {
            return BAD_KEY;
        }
        int found = winnerAt(centreOf[client], key);
        if (found != NO_VERSION) {
            seenBy[client] |= only(found);
        }
        return found;
    }

    public int move(int client, int centre) {
        if (!isClient(client)) {
            return BAD_CLIENT;
        }
        if (!isCentre(centre)) {
            return BAD_CENTRE;
        }
        if (!allVisible(seenBy[client], centre)) {
            return BEHIND;
        }
        centreOf[client] = centre;
        return 0;
    }

    public int deliver(int version, int centre) {
        if (!isVersion(version)) {
            return NO_VERSION;
        }
        if (!isCentre(centre)) {
            return BAD_CENTRE;
        }
        if (has(comeTo[centre], version)) {
            return HAS_COME;
        }
        comeTo[centre] |= only(version);
        return showReady(centre);
    }

    public int deliverAll(int centre) {
        if (!isCentre(centre)) {
            return BAD_CENTRE;
        }
        // What is visible in the end is the same in whatever order they come, so they come as one set.
        comeTo[centre] = (1L << versions) - 1L;
        return showReady(centre);
    }

    public boolean visible(int version, int centre) {
        return isVersion(version) && isCentre(centre) && has(visibleAt[centre], version);
    }

    public int winner(int centre, int key) {
        if (!isCentre(centre)) {
            return BAD_CENTRE;
        }
        if (!isKey(key)) {
            return BAD_KEY;
        }
        return winnerAt(centre, key);
    }

    public int value(int version) {
        return isVersion(version) ? valueOf[version] : 0;
    }

    public int stamp(int version) {
        return isVersion(version) ? stampOf[version] : NO_VERSION;
    }

    public boolean depends(int a, int b) {
        return isVersion(a) && isVersion(b) && has(dependsOn[a], b);
    }

    public int held(int centre) {
        if (!isCentre(centre)) {
            return BAD_CENTRE;
        }
        return sizeOf(comeTo[centre] & ~visibleAt[centre]);
    }

    public int seen(int client) {
        return isClient(client) ? sizeOf(seenBy[client]) : BAD_CLIENT;
    }

    public int agree(int centreA, int centreB) {
        if (!isCentre(centreA) || !isCentre(centreB)) {
            return BAD_CENTRE;
        }
        int same = 0;
        for (int key = 0; key < KEYS; key++) {
            if (winnerAt(centreA, key) == winnerAt(centreB, key)) {
                same++;
            }
        }
        return same;
    }

    private static boolean isClient(int client) {
        return client >= 0 && client < CLIENTS;
    }

    private static boolean isCentre(int centre) {
        return centre >= 0 && centre < CENTRES;
    }

    private static boolean isKey(int key) {
        return key >= 0 && key < KEYS;
    }

    private boolean isVersion(int version) {
        return version >= 0 && version < versions;
    }

    private static long only(int version) {
        return 1L << version;
    }

    private static boolean has(long set, int version) {
        return (set & only(version)) != 0L;
    }

    private static int sizeOf(long set) {
        int size = 0;
        for (int version = 0; version < MOST_VERSIONS; version++) {
            if (has(set, version)) {
                size++;
            }
        }
        return size;
    }

    private boolean allVisible(long set, int centre) {
        return (set & ~visibleAt[centre]) == 0L;
    }

    private int greatestStamp(long set) {
        int greatest = 0;
        for (int version = 0; version < MOST_VERSIONS; version++) {
            if (has(set, version) && stampOf[version] > greatest) {
                greatest = stampOf[version];
            }
        }
        return greatest;
    }

    private int winnerAt(int centre, int key) {
        int best = NO_VERSION;
        int bestStamp = 0;
        for (int version = 0; version < MOST_VERSIONS; version++) {
            // With >= the later of two equal stamps wins, and it has the greater number.
            if (has(visibleAt[centre], version) && keyOf[version] == key && stampOf[version] >= bestStamp) {
                best = version;
                bestStamp = stampOf[version];
            }
        }
        return best;
    }

    // Answers how many became visible. One ascending pass finds them all, because a version
    // depends only on versions with smaller numbers.
    private int showReady(int centre) {
        int shown = 0;
        for (int version = 0; version < MOST_VERSIONS; version++) {
            boolean waits = has(comeTo[centre], version) && !has(visibleAt[centre], version);
            if (waits && allVisible(dependsOn[version], centre)) {
                visibleAt[centre] |= only(version);
                shown++;
            }
        }
        return shown;
    }
}
