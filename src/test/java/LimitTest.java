import java.util.function.ToIntFunction;

/** An object is used for 512 calls: whatever the first were, the last of them is still answered as due. */
public final class LimitTest {
    private static final int CALLS = 512;

    public static void main(String[] args) {
        Due.sentence("What it is", "An object is used for at most 512 calls after it has been made");
        idleCallsWearNothingOut();
        everyCallMayBeTheLast();
        movesWearNothingOut();
        refusedWritesTakeNoRoom();
        Due.end();
    }

    private static void idleCallsWearNothingOut() {
        afterIdle("write", x -> x.write(0, 6, 7));
        afterIdle("read", x -> x.read(0, 0));
        afterIdle("move", x -> x.move(0, 0));
        afterIdle("deliver", x -> x.deliver(0, 0));
        afterIdle("deliverAll", x -> x.deliverAll(1));
        afterIdle("visible", x -> x.visible(0, 0) ? 1 : 0);
        afterIdle("winner", x -> x.winner(0, 0));
        afterIdle("value", x -> x.value(0));
        afterIdle("stamp", x -> x.stamp(0));
        afterIdle("depends", x -> x.depends(0, 0) ? 1 : 0);
        afterIdle("held", x -> x.held(0));
        afterIdle("seen", x -> x.seen(0));
        afterIdle("agree", x -> x.agree(0, 1));
    }

    private static void afterIdle(String name, ToIntFunction<CausalStore> idle) {
        CausalStore x = new CausalStore();
        for (int call = 0; call < CALLS - 4; call++) {
            idle.applyAsInt(x);
        }
        Due.due("509th call, after " + name + ": write(0, 5, 7)", x.write(0, 5, 7), 0);
        Due.due("510th call, after " + name + ": deliver(0, 1)", x.deliver(0, 1), 1);
        Due.due("511th call, after " + name + ": read(1, 5)", x.read(1, 5), 0);
        Due.due("512th call, after " + name + ": seen(1)", x.seen(1), 1);
    }

    private static void everyCallMayBeTheLast() {
        last("write(0, 0, 7)", x -> x.write(0, 0, 7), CausalStore.FULL);
        last("read(0, 0)", x -> x.read(0, 0), 39);
        last("move(0, 1)", x -> x.move(0, 1), CausalStore.BEHIND);
        last("move(0, 0)", x -> x.move(0, 0), 0);
        last("deliver(0, 1)", x -> x.deliver(0, 1), 1);
        last("deliver(39, 1)", x -> x.deliver(39, 1), 0);
        last("deliverAll(2)", x -> x.deliverAll(2), 40);
        last("visible(39, 0)", x -> x.visible(39, 0) ? 1 : 0, 1);
        last("winner(0, 0)", x -> x.winner(0, 0), 39);
        last("value(39)", x -> x.value(39), 139);
        last("stamp(39)", x -> x.stamp(39), 40);
        last("depends(39, 0)", x -> x.depends(39, 0) ? 1 : 0, 1);
        last("held(0)", x -> x.held(0), 0);
        last("seen(0)", x -> x.seen(0), 40);
        last("agree(0, 1)", x -> x.agree(0, 1), 5);
    }

    private static void last(String name, ToIntFunction<CausalStore> call, int answer) {
        CausalStore x = new CausalStore();
        for (int before = 0; before < CALLS - 1; before++) {
            x.write(0, 0, 100 + before);
        }
        Due.due("512th call, after writes: " + name, call.applyAsInt(x), answer);
    }

    private static void movesWearNothingOut() {
        CausalStore x = new CausalStore();
        for (int call = 0; call < CALLS - 2; call++) {
            Due.due("move " + call, x.move(0, call % 3), 0);
        }
        Due.due("511th call, after moves: write(0, 0, 7)", x.write(0, 0, 7), 0);
        Due.due("512th call, after moves: visible(0, 2)", x.visible(0, 2), true);
    }

    private static void refusedWritesTakeNoRoom() {
        CausalStore x = new CausalStore();
        for (int call = 0; call < CALLS - 41; call++) {
            x.write(-1, 0, 7);
        }
        for (int version = 0; version < 40; version++) {
            Due.due("write after refused ones", x.write(0, 0, 7), version);
        }
        Due.due("512th call: write(0, 0, 7)", x.write(0, 0, 7), CausalStore.FULL);
    }
}
