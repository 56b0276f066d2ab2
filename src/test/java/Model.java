import java.util.ArrayList;
import java.util.HashSet;
import java.util.List;
import java.util.Set;

/** The document's words over plain sets, written without a look at how the class does it. */
final class Model {
    private static final class Version {
        final int key;
        final int value;
        final int stamp;
        final Set<Integer> needs;

        Version(int key, int value, int stamp, Set<Integer> needs) {
            this.key = key;
            this.value = value;
            this.stamp = stamp;
            this.needs = needs;
        }
    }

    private final List<Version> versions = new ArrayList<>();
    private final List<Set<Integer>> come = List.of(new HashSet<>(), new HashSet<>(), new HashSet<>());
    private final List<Set<Integer>> seenBy = List.of(new HashSet<>(), new HashSet<>(), new HashSet<>());
    private final int[] at = {0, 1, 2};

    int write(int client, int key, int value) {
        if (isOutside(client, 3)) {
            return -1;
        }
        if (isOutside(key, 6)) {
            return -2;
        }
        if (versions.size() == 40) {
            return -3;
        }
        int number = versions.size();
        int greatest = 0;
        for (int seen : seenBy.get(client)) {
            greatest = Math.max(greatest, versions.get(seen).stamp);
        }
        versions.add(new Version(key, value, greatest + 1, new HashSet<>(seenBy.get(client))));
        seenBy.get(client).add(number);
        come.get(at[client]).add(number);
        return number;
    }

    int read(int client, int key) {
        if (isOutside(client, 3)) {
            return -1;
        }
        int found = winner(at[client], key);
        if (found >= 0) {
            seenBy.get(client).add(found);
        }
        return found;
    }

    int move(int client, int centre) {
        if (isOutside(client, 3)) {
            return -1;
        }
        if (isOutside(centre, 3)) {
            return -4;
        }
        if (!visibleAt(centre).containsAll(seenBy.get(client))) {
            return -7;
        }
        at[client] = centre;
        return 0;
    }

    int deliver(int version, int centre) {
        if (isOutside(version, versions.size())) {
            return -5;
        }
        if (isOutside(centre, 3)) {
            return -4;
        }
        int before = visibleAt(centre).size();
        if (!come.get(centre).add(version)) {
            return -6;
        }
        return visibleAt(centre).size() - before;
    }

    int deliverAll(int centre) {
        if (isOutside(centre, 3)) {
            return -4;
        }
        int shown = 0;
        for (int version = 0; version < versions.size(); version++) {
            shown += Math.max(0, deliver(version, centre));
        }
        return shown;
    }

    boolean visible(int version, int centre) {
        return !isOutside(centre, 3) && visibleAt(centre).contains(version);
    }

    int winner(int centre, int key) {
        if (isOutside(centre, 3)) {
            return -4;
        }
        if (isOutside(key, 6)) {
            return -2;
        }
        int best = -5;
        for (int version : visibleAt(centre)) {
            if (versions.get(version).key == key && (best < 0 || beats(version, best))) {
                best = version;
            }
        }
        return best;
    }

    int value(int version) {
        return isOutside(version, versions.size()) ? 0 : versions.get(version).value;
    }

    int stamp(int version) {
        return isOutside(version, versions.size()) ? -5 : versions.get(version).stamp;
    }

    boolean depends(int a, int b) {
        return !isOutside(a, versions.size()) && versions.get(a).needs.contains(b);
    }

    int held(int centre) {
        return isOutside(centre, 3) ? -4 : come.get(centre).size() - visibleAt(centre).size();
    }

    int seen(int client) {
        return isOutside(client, 3) ? -1 : seenBy.get(client).size();
    }

    int agree(int centreA, int centreB) {
        if (isOutside(centreA, 3) || isOutside(centreB, 3)) {
            return -4;
        }
        int same = 0;
        for (int key = 0; key < 6; key++) {
            same += winner(centreA, key) == winner(centreB, key) ? 1 : 0;
        }
        return same;
    }

    private static boolean isOutside(int number, int limit) {
        return number < 0 || number >= limit;
    }

    private boolean beats(int version, int other) {
        int lead = versions.get(version).stamp - versions.get(other).stamp;
        return lead > 0 || lead == 0 && version > other;
    }

    // Grows from nothing until it grows no more, so that it leans on no order of the numbers.
    private Set<Integer> visibleAt(int centre) {
        Set<Integer> shown = new HashSet<>();
        boolean grew = true;
        while (grew) {
            grew = false;
            for (int version : come.get(centre)) {
                if (!shown.contains(version) && shown.containsAll(versions.get(version).needs)) {
                    shown.add(version);
                    grew = true;
                }
            }
        }
        return shown;
    }
}
