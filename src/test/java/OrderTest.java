/** Promise 15: of several refusals that a call has earned, the one named first is answered. */
public final class OrderTest {
    private static final int[] RIGHT_CLIENTS = Edges.inside(3);
    private static final int[] RIGHT_CENTRES = Edges.inside(3);
    private static final int[] RIGHT_KEYS = Edges.inside(6);
    private static final int[] WRONG_CLIENTS = Edges.outside(3);
    private static final int[] WRONG_CENTRES = Edges.outside(3);
    private static final int[] WRONG_KEYS = Edges.outside(6);

    private interface Call {
        int on(CausalStore x, int first, int second);
    }

    public static void main(String[] args) {
        writeLooksAtClientKeyFull();
        readLooksAtClientKeyVersion();
        moveLooksAtClientCentreBehind();
        deliverLooksAtVersionCentreCome();
        winnerLooksAtCentreKeyVersion();
        Due.end();
    }

    private static void writeLooksAtClientKeyFull() {
        Due.sentence("Promise 15", "write: tested in the order BAD_CLIENT, BAD_KEY, FULL");
        Call write = (x, client, key) -> x.write(client, key, 7);
        for (Stage stage : Stage.values()) {
            due("write", stage, write, WRONG_CLIENTS, WRONG_KEYS, CausalStore.BAD_CLIENT);
            due("write", stage, write, WRONG_CLIENTS, RIGHT_KEYS, CausalStore.BAD_CLIENT);
            due("write", stage, write, RIGHT_CLIENTS, WRONG_KEYS, CausalStore.BAD_KEY);
        }
        due("write", Stage.FULL, write, RIGHT_CLIENTS, RIGHT_KEYS, CausalStore.FULL);
        due("write", Stage.HELD, write, RIGHT_CLIENTS, RIGHT_KEYS, 4);
        due("write", Stage.EMPTY, write, RIGHT_CLIENTS, RIGHT_KEYS, 0);
    }

    private static void readLooksAtClientKeyVersion() {
        Due.sentence("Promise 15", "read: BAD_CLIENT, BAD_KEY, NO_VERSION");
        for (Stage stage : Stage.values()) {
            due("read", stage, CausalStore::read, WRONG_CLIENTS, WRONG_KEYS, CausalStore.BAD_CLIENT);
            due("read", stage, CausalStore::read, WRONG_CLIENTS, RIGHT_KEYS, CausalStore.BAD_CLIENT);
            due("read", stage, CausalStore::read, RIGHT_CLIENTS, WRONG_KEYS, CausalStore.BAD_KEY);
        }
        due("read", Stage.EMPTY, CausalStore::read, RIGHT_CLIENTS, RIGHT_KEYS, CausalStore.NO_VERSION);
    }

    private static void moveLooksAtClientCentreBehind() {
        Due.sentence("Promise 15", "move: BAD_CLIENT, BAD_CENTRE, BEHIND");
        for (Stage stage : Stage.values()) {
            due("move", stage, CausalStore::move, WRONG_CLIENTS, WRONG_CENTRES, CausalStore.BAD_CLIENT);
            due("move", stage, CausalStore::move, WRONG_CLIENTS, RIGHT_CENTRES, CausalStore.BAD_CLIENT);
            due("move", stage, CausalStore::move, RIGHT_CLIENTS, WRONG_CENTRES, CausalStore.BAD_CENTRE);
        }
        due("move", Stage.FULL, CausalStore::move, new int[] {0}, new int[] {1, 2}, CausalStore.BEHIND);
        due("move", Stage.EMPTY, CausalStore::move, RIGHT_CLIENTS, RIGHT_CENTRES, 0);
    }

    private static void deliverLooksAtVersionCentreCome() {
        Due.sentence("Promise 15", "deliver: NO_VERSION, BAD_CENTRE, HAS_COME");
        for (Stage stage : Stage.values()) {
            int[] wrong = Edges.outside(stage.versions);
            due("deliver", stage, CausalStore::deliver, wrong, WRONG_CENTRES, CausalStore.NO_VERSION);
            due("deliver", stage, CausalStore::deliver, wrong, RIGHT_CENTRES, CausalStore.NO_VERSION);
            int[] right = Edges.inside(stage.versions);
            due("deliver", stage, CausalStore::deliver, right, WRONG_CENTRES, CausalStore.BAD_CENTRE);
        }
        due("deliver", Stage.HELD, CausalStore::deliver, new int[] {0, 1, 3}, new int[] {0}, CausalStore.HAS_COME);
    }

    private static void winnerLooksAtCentreKeyVersion() {
        Due.sentence("Promise 15", "winner: BAD_CENTRE, BAD_KEY, NO_VERSION");
        for (Stage stage : Stage.values()) {
            due("winner", stage, CausalStore::winner, WRONG_CENTRES, WRONG_KEYS, CausalStore.BAD_CENTRE);
            due("winner", stage, CausalStore::winner, WRONG_CENTRES, RIGHT_KEYS, CausalStore.BAD_CENTRE);
            due("winner", stage, CausalStore::winner, RIGHT_CENTRES, WRONG_KEYS, CausalStore.BAD_KEY);
        }
        due("winner", Stage.EMPTY, CausalStore::winner, RIGHT_CENTRES, RIGHT_KEYS, CausalStore.NO_VERSION);
    }

    // Every pair has a new store, so that a call that is not refused leaves nothing to the next.
    private static void due(String name, Stage stage, Call call, int[] firsts, int[] seconds, int answer) {
        for (int first : firsts) {
            for (int second : seconds) {
                Due.due(stage + " store: " + name + "(" + first + ", " + second + ")",
                    call.on(stage.make(), first, second), answer);
            }
        }
    }
}
