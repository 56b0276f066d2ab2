import java.util.EnumMap;
import java.util.Map;
import java.util.function.ToIntFunction;

/** A refused call and a question leave the whole state as it was. Each kind of refusal has a test of its own. */
public final class RefusalTest {
    private static final Map<Stage, String> BEFORE = new EnumMap<>(Stage.class);

    public static void main(String[] args) {
        for (Stage stage : Stage.values()) {
            BEFORE.put(stage, State.of(stage::make));
        }
        writeOfABadClient();
        writeOfABadKey();
        writeIntoAFullStore();
        readOfABadClient();
        readOfABadKey();
        readThatFindsNothing();
        moveOfABadClient();
        moveToABadCentre();
        moveThatIsBehind();
        deliverOfNoVersion();
        deliverToABadCentre();
        deliverOfWhatHasCome();
        deliverAllToABadCentre();
        deliverAllOfNothing();
        questionsAboutVersions();
        questionsAboutTwoVersions();
        questionsAboutCentres();
        questionsAboutClients();
        Due.end();
    }

    private static void writeOfABadClient() {
        Due.sentence("Promise 2", "client not in 0 to 2: BAD_CLIENT; nothing changes then");
        for (Stage stage : Stage.values()) {
            for (int client : Edges.outside(3)) {
                refused(stage, "write(" + client + ", 1, 7)", x -> x.write(client, 1, 7), CausalStore.BAD_CLIENT);
            }
        }
    }

    private static void writeOfABadKey() {
        Due.sentence("Promise 2", "key not in 0 to 5: BAD_KEY; nothing changes then");
        for (Stage stage : Stage.values()) {
            for (int key : Edges.outside(6)) {
                refused(stage, "write(1, " + key + ", 7)", x -> x.write(1, key, 7), CausalStore.BAD_KEY);
            }
        }
    }

    private static void writeIntoAFullStore() {
        Due.sentence("Promise 2", "there are forty versions: FULL; nothing changes then");
        for (int client : Edges.inside(3)) {
            for (int key : Edges.inside(6)) {
                refused(Stage.FULL, "write(" + client + ", " + key + ", 7)",
                    x -> x.write(client, key, 7), CausalStore.FULL);
            }
        }
    }

    private static void readOfABadClient() {
        Due.sentence("Promise 3", "BAD_CLIENT");
        for (Stage stage : Stage.values()) {
            for (int client : Edges.outside(3)) {
                refused(stage, "read(" + client + ", 1)", x -> x.read(client, 1), CausalStore.BAD_CLIENT);
            }
        }
    }

    private static void readOfABadKey() {
        Due.sentence("Promise 3", "BAD_KEY");
        for (Stage stage : Stage.values()) {
            for (int key : Edges.outside(6)) {
                refused(stage, "read(1, " + key + ")", x -> x.read(1, key), CausalStore.BAD_KEY);
            }
        }
    }

    private static void readThatFindsNothing() {
        Due.sentence("Promise 3", "has seen the winner of the key there, if there is one");
        for (int client : Edges.inside(3)) {
            for (int key : Edges.inside(6)) {
                refused(Stage.EMPTY, "read(" + client + ", " + key + ")",
                    x -> x.read(client, key), CausalStore.NO_VERSION);
            }
        }
        refused(Stage.HELD, "read(0, 5) of what is held", x -> x.read(0, 5), CausalStore.NO_VERSION);
        refused(Stage.HELD, "read(1, 0) of what has not come", x -> x.read(1, 0), CausalStore.NO_VERSION);
        refused(Stage.FULL, "read(0, 5) of what is held", x -> x.read(0, 5), CausalStore.NO_VERSION);
    }

    private static void moveOfABadClient() {
        Due.sentence("Promise 4", "BAD_CLIENT; nothing changes then");
        for (Stage stage : Stage.values()) {
            for (int client : Edges.outside(3)) {
                refused(stage, "move(" + client + ", 1)", x -> x.move(client, 1), CausalStore.BAD_CLIENT);
            }
        }
    }

    private static void moveToABadCentre() {
        Due.sentence("Promise 4", "centre not in 0 to 2: BAD_CENTRE; nothing changes then");
        for (Stage stage : Stage.values()) {
            for (int centre : Edges.outside(3)) {
                refused(stage, "move(0, " + centre + ")", x -> x.move(0, centre), CausalStore.BAD_CENTRE);
            }
        }
    }

    private static void moveThatIsBehind() {
        Due.sentence("Promise 4", "some version that it has seen is not visible there: BEHIND; nothing changes then");
        for (Stage stage : new Stage[] {Stage.HELD, Stage.FULL}) {
            refused(stage, "move(0, 1)", x -> x.move(0, 1), CausalStore.BEHIND);
            refused(stage, "move(0, 2)", x -> x.move(0, 2), CausalStore.BEHIND);
            refused(stage, "move(1, 0)", x -> x.move(1, 0), CausalStore.BEHIND);
            refused(stage, "move(2, 0)", x -> x.move(2, 0), CausalStore.BEHIND);
            refused(stage, "move(2, 2)", x -> x.move(2, 2), CausalStore.BEHIND);
        }
    }

    private static void deliverOfNoVersion() {
        Due.sentence("Promise 5", "It doesn't exist: NO_VERSION; nothing changes then");
        for (Stage stage : Stage.values()) {
            for (int version : Edges.outside(stage.versions)) {
                for (int centre : Edges.inside(3)) {
                    refused(stage, "deliver(" + version + ", " + centre + ")",
                        x -> x.deliver(version, centre), CausalStore.NO_VERSION);
                }
            }
        }
    }

    private static void deliverToABadCentre() {
        Due.sentence("Promise 5", "BAD_CENTRE; nothing changes then");
        for (Stage stage : new Stage[] {Stage.HELD, Stage.FULL}) {
            for (int centre : Edges.outside(3)) {
                refused(stage, "deliver(0, " + centre + ")", x -> x.deliver(0, centre), CausalStore.BAD_CENTRE);
            }
        }
    }

    private static void deliverOfWhatHasCome() {
        Due.sentence("Promise 5", "it has come there: HAS_COME; nothing changes then");
        for (Stage stage : new Stage[] {Stage.HELD, Stage.FULL}) {
            refused(stage, "deliver(0, 0) where written", x -> x.deliver(0, 0), CausalStore.HAS_COME);
            refused(stage, "deliver(2, 2) where shown", x -> x.deliver(2, 2), CausalStore.HAS_COME);
            refused(stage, "deliver(3, 0) where held", x -> x.deliver(3, 0), CausalStore.HAS_COME);
            refused(stage, "deliver(1, 1) where held", x -> x.deliver(1, 1), CausalStore.HAS_COME);
        }
        refused(Stage.FULL, "deliver(39, 2) where held", x -> x.deliver(39, 2), CausalStore.HAS_COME);
    }

    private static void deliverAllToABadCentre() {
        Due.sentence("Promise 6", "BAD_CENTRE");
        for (Stage stage : Stage.values()) {
            for (int centre : Edges.outside(3)) {
                refused(stage, "deliverAll(" + centre + ")", x -> x.deliverAll(centre), CausalStore.BAD_CENTRE);
            }
        }
    }

    private static void deliverAllOfNothing() {
        Due.sentence("Promise 6", "All versions that have not come to the centre come there");
        for (int centre : Edges.inside(3)) {
            harmless(Stage.EMPTY, "deliverAll(" + centre + ")", x -> x.deliverAll(centre));
        }
    }

    private static void questionsAboutVersions() {
        Due.sentence("Terms", "The calls below change nothing");
        for (Stage stage : Stage.values()) {
            for (int version : new int[] {Integer.MIN_VALUE, -1, 0, 1, 3, 39, 40, Integer.MAX_VALUE}) {
                harmless(stage, "value(" + version + ")", x -> x.value(version));
                harmless(stage, "stamp(" + version + ")", x -> x.stamp(version));
                for (int centre = -1; centre <= 3; centre++) {
                    int place = centre;
                    harmless(stage, "visible(" + version + ", " + place + ")",
                        x -> x.visible(version, place) ? 1 : 0);
                }
            }
        }
    }

    private static void questionsAboutTwoVersions() {
        Due.sentence("Terms", "The calls below change nothing");
        int[] versions = {Integer.MIN_VALUE, -1, 0, 1, 2, 3, 39, 40, Integer.MAX_VALUE};
        for (Stage stage : Stage.values()) {
            for (int a : versions) {
                for (int b : versions) {
                    harmless(stage, "depends(" + a + ", " + b + ")", x -> x.depends(a, b) ? 1 : 0);
                }
            }
        }
    }

    private static void questionsAboutCentres() {
        Due.sentence("Terms", "The calls below change nothing");
        int[] centres = {Integer.MIN_VALUE, -1, 0, 1, 2, 3, Integer.MAX_VALUE};
        for (Stage stage : Stage.values()) {
            for (int centre : centres) {
                harmless(stage, "held(" + centre + ")", x -> x.held(centre));
                for (int key = -1; key <= 6; key++) {
                    int place = key;
                    harmless(stage, "winner(" + centre + ", " + place + ")", x -> x.winner(centre, place));
                }
                for (int other : centres) {
                    harmless(stage, "agree(" + centre + ", " + other + ")", x -> x.agree(centre, other));
                }
            }
        }
    }

    private static void questionsAboutClients() {
        Due.sentence("Terms", "The calls below change nothing");
        for (Stage stage : Stage.values()) {
            for (int client : new int[] {Integer.MIN_VALUE, -1, 0, 1, 2, 3, Integer.MAX_VALUE}) {
                harmless(stage, "seen(" + client + ")", x -> x.seen(client));
            }
        }
    }

    private static void refused(Stage stage, String call, ToIntFunction<CausalStore> made, int answer) {
        Due.due(stage + " store: " + call, made.applyAsInt(stage.make()), answer);
        harmless(stage, call, made);
    }

    private static void harmless(Stage stage, String call, ToIntFunction<CausalStore> made) {
        String after = State.of(() -> afterCall(stage, made));
        Due.dueText("the state of the " + stage + " store after " + call, after, BEFORE.get(stage));
    }

    private static CausalStore afterCall(Stage stage, ToIntFunction<CausalStore> made) {
        CausalStore x = stage.make();
        made.applyAsInt(x);
        return x;
    }
}
