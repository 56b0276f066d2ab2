/** Long runs of mixed calls, the same in every run of the test, on which the class and the model must agree. */
public final class ModelTest {
    private static final int RUNS = 1500;
    private static final int CALLS = 512;
    private static final int[] ODD = {-1, 3, 6, 40, 64, -64, Integer.MIN_VALUE, Integer.MAX_VALUE};

    private static long state = 1;

    public static void main(String[] args) {
        // After a run with a wrong answer the others would only say the same again.
        for (int run = 0; run < RUNS && !Due.hasWrong(); run++) {
            CausalStore x = new CausalStore();
            Model m = new Model();
            // Runs differ in how often they write: some are full early, others never.
            int writesInHundred = 3 + run % 30;
            for (int call = 0; call < CALLS; call++) {
                compareOne("run " + run + ", call " + call + ": ", x, m, below(100) < writesInHundred);
            }
        }
        Due.end();
    }

    private static void compareOne(String where, CausalStore x, Model m, boolean write) {
        int centre = mostly(3);
        int client = mostly(3);
        int key = mostly(6);
        int version = mostly(40);
        int other = mostly(3);
        switch (write ? 0 : 1 + below(18)) {
            case 0:
                int value = below(1000) - 500;
                Due.due(where + "write(" + client + ", " + key + ", " + value + ")",
                    x.write(client, key, value), m.write(client, key, value));
                break;
            case 1: case 2:
                Due.due(where + "read(" + client + ", " + key + ")", x.read(client, key), m.read(client, key));
                break;
            case 3: case 4:
                Due.due(where + "move(" + client + ", " + centre + ")", x.move(client, centre), m.move(client, centre));
                break;
            case 5: case 6: case 7: case 8: case 9:
                Due.due(where + "deliver(" + version + ", " + centre + ")",
                    x.deliver(version, centre), m.deliver(version, centre));
                break;
            case 10:
                // Seldom, or nothing would ever be held.
                if (below(12) == 0) {
                    Due.due(where + "deliverAll(" + centre + ")", x.deliverAll(centre), m.deliverAll(centre));
                }
                break;
            case 11:
                Due.due(where + "visible(" + version + ", " + centre + ")",
                    x.visible(version, centre), m.visible(version, centre));
                break;
            case 12:
                Due.due(where + "winner(" + centre + ", " + key + ")", x.winner(centre, key), m.winner(centre, key));
                break;
            case 13:
                Due.due(where + "value(" + version + ")", x.value(version), m.value(version));
                break;
            case 14:
                Due.due(where + "stamp(" + version + ")", x.stamp(version), m.stamp(version));
                break;
            case 15:
                int second = mostly(40);
                Due.due(where + "depends(" + version + ", " + second + ")",
                    x.depends(version, second), m.depends(version, second));
                break;
            case 16:
                Due.due(where + "held(" + centre + ")", x.held(centre), m.held(centre));
                break;
            case 17:
                Due.due(where + "seen(" + client + ")", x.seen(client), m.seen(client));
                break;
            default:
                Due.due(where + "agree(" + centre + ", " + other + ")", x.agree(centre, other), m.agree(centre, other));
        }
    }

    private static int mostly(int limit) {
        return below(20) == 0 ? ODD[below(ODD.length)] : below(limit);
    }

    // Numbers from a fixed rule, so that a failing run can be had again.
    private static int below(int limit) {
        state = state * 6364136223846793005L + 1442695040888963407L;
        return (int) ((state >>> 33) % limit);
    }
}
