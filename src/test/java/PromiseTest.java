/** One group of tests for each of promises 1 to 14 with ordinary inputs; EdgeTest has their edges. */
public final class PromiseTest {
    private static final int MIN = Integer.MIN_VALUE;
    private static final int MAX = Integer.MAX_VALUE;

    public static void main(String[] args) {
        newObjectsShareNothing();
        writeNumbersVersionsAndIsSeen();
        writeTakesPlaceAtTheClientsCentre();
        writeStopsAtForty();
        readAnswersTheWinnerAndIsSeen();
        readOfTheSameVersionCountsOnce();
        readSeesOnlyWhatItRead();
        moveChangesTheCentre();
        moveWaitsForWhatWasSeen();
        deliverCountsWhatBecomesVisible();
        deliverReleasesSeveralAtOnce();
        deliverReleasesOnlyAtThatCentre();
        deliverAllBringsEverything();
        deliverAllReleasesHeldVersions();
        visibleNeedsTheWholeChain();
        winnerHasTheGreatestStamp();
        winnerOfEqualStampsHasTheGreaterNumber();
        winnerLooksAtItsKeyAndVisibleVersionsOnly();
        valueIsTheOneWritten();
        stampIsOneMoreThanTheGreatestSeen();
        dependsIsWhatTheClientHadSeen();
        heldCountsComeButNotVisible();
        seenCountsDistinctVersions();
        agreeCountsEqualWinners();
        Due.end();
    }

    // Promise 1

    private static void newObjectsShareNothing() {
        CausalStore x = new CausalStore();
        x.write(0, 0, 1);
        CausalStore y = new CausalStore();
        Due.due("second object: stamp(0)", y.stamp(0), CausalStore.NO_VERSION);
        Due.due("second object: seen(0)", y.seen(0), 0);
        Due.due("second object: write", y.write(1, 0, 2), 0);
        Due.due("first object: value(0)", x.value(0), 1);
    }

    // Promise 2

    private static void writeNumbersVersionsAndIsSeen() {
        CausalStore x = new CausalStore();
        Due.due("write: first", x.write(2, 0, 7), 0);
        Due.due("write: second", x.write(0, 5, 8), 1);
        Due.due("write: third", x.write(2, 3, 9), 2);
        Due.due("write: seen(2)", x.seen(2), 2);
        Due.due("write: seen(0)", x.seen(0), 1);
        Due.due("write: seen(1)", x.seen(1), 0);
        Due.due("write: depends(2, 0)", x.depends(2, 0), true);
    }

    private static void writeTakesPlaceAtTheClientsCentre() {
        CausalStore x = new CausalStore();
        for (int client = 0; client < 3; client++) {
            int version = x.write(client, client, 5);
            for (int centre = 0; centre < 3; centre++) {
                Due.due("write: visible where written only", x.visible(version, centre), centre == client);
                Due.due("write: winner where written only",
                    x.winner(centre, client), centre == client ? version : CausalStore.NO_VERSION);
            }
        }
        Due.due("write: has come where written", x.deliver(1, 1), CausalStore.HAS_COME);
    }

    private static void writeStopsAtForty() {
        CausalStore x = new CausalStore();
        for (int i = 0; i < 40; i++) {
            Due.due("write: number " + i, x.write(i % 3, i % 6, 100 + i), i);
        }
        Due.due("write: forty-first", x.write(0, 0, 1), CausalStore.FULL);
        Due.due("write: forty-second", x.write(2, 5, 1), CausalStore.FULL);
        Due.due("full: seen(0)", x.seen(0), 14);
        Due.due("full: value(39)", x.value(39), 139);
        Due.due("full: value(40)", x.value(40), 0);
        Due.due("full: stamp(39)", x.stamp(39), 14);
        Due.due("full: stamp(40)", x.stamp(40), CausalStore.NO_VERSION);
        Due.due("full: winner(0, 0)", x.winner(0, 0), 36);
        Due.due("full: visible(39, 0)", x.visible(39, 0), true);
        Due.due("full: deliver(39, 1)", x.deliver(39, 1), 0);
        Due.due("full: deliver(40, 1)", x.deliver(40, 1), CausalStore.NO_VERSION);
        Due.due("full: deliverAll(1)", x.deliverAll(1), 27);
        Due.due("full: visible(39, 1)", x.visible(39, 1), true);
        Due.due("full: held(1)", x.held(1), 0);
        Due.due("full: deliverAll(0)", x.deliverAll(0), 26);
        Due.due("full: agree(0, 1)", x.agree(0, 1), 6);
    }

    // Promise 3

    private static void readAnswersTheWinnerAndIsSeen() {
        CausalStore x = new CausalStore();
        x.write(0, 4, 1);
        Due.due("read: nothing at another centre", x.read(1, 4), CausalStore.NO_VERSION);
        Due.due("read: nothing seen by that", x.seen(1), 0);
        x.deliver(0, 1);
        Due.due("read: delivered", x.read(1, 4), 0);
        Due.due("read: seen by that", x.seen(1), 1);
        Due.due("read: another key", x.read(1, 3), CausalStore.NO_VERSION);
        x.write(1, 2, 1);
        Due.due("read: made a dependency", x.depends(1, 0), true);
        x.write(1, 4, 1);
        Due.due("read: later winner", x.read(1, 4), 2);
        Due.due("read: other centre's winner", x.read(0, 4), 0);
    }

    private static void readOfTheSameVersionCountsOnce() {
        CausalStore x = new CausalStore();
        x.write(0, 0, 1);
        x.read(0, 0);
        x.read(0, 0);
        Due.due("read: own version again", x.seen(0), 1);
    }

    private static void readSeesOnlyWhatItRead() {
        CausalStore x = new CausalStore();
        x.write(0, 0, 1);
        x.write(0, 1, 1);
        x.deliverAll(1);
        Due.due("read: the later one", x.read(1, 1), 1);
        Due.due("read: what it depends on is not seen", x.seen(1), 1);
        x.write(1, 2, 1);
        Due.due("read: direct dependency", x.depends(2, 1), true);
        Due.due("read: no dependency through another", x.depends(2, 0), false);
    }

    // Promise 4

    private static void moveChangesTheCentre() {
        CausalStore x = new CausalStore();
        Due.due("move: a new client", x.move(0, 2), 0);
        x.write(0, 1, 1);
        Due.due("move: writes there", x.visible(0, 2), true);
        Due.due("move: not where it was", x.visible(0, 0), false);
        Due.due("move: to where it is", x.move(0, 2), 0);
        Due.due("move: reads there", x.read(0, 1), 0);
        Due.due("move: other clients stay", x.read(1, 1), CausalStore.NO_VERSION);
    }

    private static void moveWaitsForWhatWasSeen() {
        CausalStore x = new CausalStore();
        x.write(0, 0, 1);
        Due.due("move: own write is missing", x.move(0, 1), CausalStore.BEHIND);
        x.write(0, 0, 1);
        Due.due("move: it stayed", x.visible(1, 0), true);
        x.deliver(0, 1);
        Due.due("move: one of two is missing", x.move(0, 1), CausalStore.BEHIND);
        x.deliver(1, 1);
        Due.due("move: all are visible", x.move(0, 1), 0);
        Due.due("move: reads at the new centre", x.read(0, 0), 1);
        x.write(1, 3, 1);
        x.read(0, 3);
        Due.due("move: what it read is missing", x.move(0, 0), CausalStore.BEHIND);
        x.deliver(2, 0);
        Due.due("move: what it read is visible", x.move(0, 0), 0);
    }

    // Promise 5

    private static void deliverCountsWhatBecomesVisible() {
        CausalStore x = new CausalStore();
        x.write(0, 0, 1);
        x.write(0, 1, 1);
        Due.due("deliver: without its dependency", x.deliver(1, 2), 0);
        Due.due("deliver: again, though held", x.deliver(1, 2), CausalStore.HAS_COME);
        Due.due("deliver: the dependency", x.deliver(0, 2), 2);
        Due.due("deliver: again", x.deliver(0, 2), CausalStore.HAS_COME);
        Due.due("deliver: to another centre", x.deliver(0, 1), 1);
        Due.due("deliver: and the next", x.deliver(1, 1), 1);
        Due.due("deliver: nothing is seen by that", x.seen(1), 0);
    }

    private static void deliverReleasesSeveralAtOnce() {
        CausalStore x = new CausalStore();
        for (int i = 0; i < 5; i++) {
            x.write(0, i, i);
        }
        for (int i = 4; i > 0; i--) {
            Due.due("deliver: backwards " + i, x.deliver(i, 1), 0);
        }
        Due.due("deliver: releases the chain", x.deliver(0, 1), 5);
    }

    private static void deliverReleasesOnlyAtThatCentre() {
        CausalStore x = new CausalStore();
        x.write(0, 0, 1);
        x.write(0, 1, 1);
        x.deliver(1, 1);
        x.deliver(1, 2);
        x.deliver(0, 1);
        Due.due("deliver: released at 1", x.visible(1, 1), true);
        Due.due("deliver: still held at 2", x.visible(1, 2), false);
        Due.due("deliver: held(2)", x.held(2), 1);
    }

    // Promise 6

    private static void deliverAllBringsEverything() {
        CausalStore x = new CausalStore();
        x.write(0, 0, 1);
        x.write(1, 1, 1);
        x.write(2, 2, 1);
        Due.due("deliverAll(0)", x.deliverAll(0), 2);
        Due.due("deliverAll(0) again", x.deliverAll(0), 0);
        Due.due("deliverAll: not to 1", x.visible(0, 1), false);
        for (int version = 0; version < 3; version++) {
            Due.due("deliverAll: visible", x.visible(version, 0), true);
            Due.due("deliverAll: has come", x.deliver(version, 0), CausalStore.HAS_COME);
        }
        x.write(2, 3, 1);
        Due.due("deliverAll: later versions have not come", x.visible(3, 0), false);
        Due.due("deliverAll: later versions come later", x.deliver(3, 0), 1);
    }

    private static void deliverAllReleasesHeldVersions() {
        CausalStore x = new CausalStore();
        x.write(0, 0, 1);
        x.write(0, 1, 1);
        x.write(0, 2, 1);
        x.deliver(2, 1);
        x.deliver(1, 1);
        Due.due("deliverAll: held before", x.held(1), 2);
        Due.due("deliverAll: counts the held ones", x.deliverAll(1), 3);
        Due.due("deliverAll: held after", x.held(1), 0);
    }

    // Promise 7

    private static void visibleNeedsTheWholeChain() {
        CausalStore x = new CausalStore();
        x.write(0, 0, 1);
        x.write(0, 1, 1);
        x.deliverAll(1);
        x.read(1, 1);
        x.write(1, 2, 1);
        x.deliver(1, 2);
        x.deliver(2, 2);
        Due.due("visible: its dependency is held itself", x.visible(2, 2), false);
        Due.due("visible: held one", x.visible(1, 2), false);
        Due.due("visible: not come", x.visible(0, 2), false);
        Due.due("visible: the chain is released", x.deliver(0, 2), 3);
        Due.due("visible: end of the chain", x.visible(2, 2), true);
    }

    // Promise 8

    private static void winnerHasTheGreatestStamp() {
        CausalStore x = new CausalStore();
        x.write(0, 5, 1);
        x.write(0, 3, 1);
        x.write(1, 3, 1);
        x.deliverAll(2);
        Due.due("winner: stamp 2 beats the later stamp 1", x.winner(2, 3), 1);
        Due.due("winner: at 1 the only one", x.winner(1, 3), 2);
        x.deliver(2, 0);
        Due.due("winner: the same at 0", x.winner(0, 3), 1);
    }

    private static void winnerOfEqualStampsHasTheGreaterNumber() {
        CausalStore x = new CausalStore();
        x.write(2, 0, 90);
        x.write(0, 0, 10);
        x.write(1, 0, 50);
        x.deliverAll(0);
        Due.due("winner: greatest of three numbers", x.winner(0, 0), 2);
        x.deliver(1, 2);
        Due.due("winner: greater of two numbers", x.winner(2, 0), 1);
        x.deliver(0, 1);
        Due.due("winner: an older one that comes later", x.winner(1, 0), 2);
    }

    private static void winnerLooksAtItsKeyAndVisibleVersionsOnly() {
        CausalStore x = new CausalStore();
        x.write(1, 0, 1);
        x.write(0, 1, 1);
        x.write(0, 0, 1);
        x.deliver(2, 1);
        Due.due("winner: a held one does not win", x.winner(1, 0), 0);
        Due.due("winner: no version of the key", x.winner(1, 1), CausalStore.NO_VERSION);
        x.deliver(1, 1);
        Due.due("winner: wins when visible", x.winner(1, 0), 2);
        Due.due("winner: of the other key", x.winner(1, 1), 1);
    }

    // Promise 9

    private static void valueIsTheOneWritten() {
        CausalStore x = new CausalStore();
        int[] values = {7, 0, -1, -5, MIN, MAX};
        for (int value : values) {
            x.write(1, 0, value);
        }
        for (int i = 0; i < values.length; i++) {
            Due.due("value(" + i + ")", x.value(i), values[i]);
        }
    }

    // Promise 10

    private static void stampIsOneMoreThanTheGreatestSeen() {
        CausalStore x = new CausalStore();
        x.write(0, 0, 1);
        x.write(0, 0, 1);
        x.write(0, 1, 1);
        x.write(1, 2, 1);
        Due.due("stamp: nothing seen", x.stamp(0), 1);
        Due.due("stamp: one seen", x.stamp(1), 2);
        Due.due("stamp: two seen", x.stamp(2), 3);
        Due.due("stamp: another client", x.stamp(3), 1);
        x.deliverAll(1);
        x.write(1, 2, 1);
        Due.due("stamp: delivered is not seen", x.stamp(4), 2);
        x.read(1, 0);
        x.write(1, 2, 1);
        Due.due("stamp: greatest is the own one", x.stamp(5), 3);
        x.deliverAll(2);
        x.read(2, 1);
        x.write(2, 2, 1);
        Due.due("stamp: greatest is not how many were seen", x.stamp(6), 4);
        x.write(1, 2, 1);
        Due.due("stamp: not of those unseen", x.stamp(7), 4);
    }

    // Promise 11

    private static void dependsIsWhatTheClientHadSeen() {
        CausalStore x = new CausalStore();
        x.write(0, 0, 1);
        x.write(0, 1, 1);
        x.write(1, 2, 1);
        Due.due("depends(1, 0)", x.depends(1, 0), true);
        Due.due("depends(0, 1)", x.depends(0, 1), false);
        Due.due("depends(1, 1)", x.depends(1, 1), false);
        Due.due("depends(2, 0)", x.depends(2, 0), false);
        x.deliverAll(1);
        x.read(1, 0);
        Due.due("depends: a later read does not count", x.depends(2, 0), false);
    }

    // Promise 12

    private static void heldCountsComeButNotVisible() {
        CausalStore x = new CausalStore();
        x.write(0, 0, 1);
        x.write(0, 1, 1);
        x.write(0, 2, 1);
        Due.due("held: not come", x.held(1), 0);
        x.deliver(2, 1);
        Due.due("held: one", x.held(1), 1);
        x.deliver(1, 1);
        Due.due("held: two", x.held(1), 2);
        Due.due("held: at the writer's centre", x.held(0), 0);
        x.deliver(0, 1);
        Due.due("held: released", x.held(1), 0);
    }

    // Promise 13

    private static void seenCountsDistinctVersions() {
        CausalStore x = new CausalStore();
        x.write(0, 0, 1);
        x.write(1, 1, 1);
        x.deliverAll(0);
        Due.due("seen: delivered is not seen", x.seen(0), 1);
        x.read(0, 1);
        Due.due("seen: one written and one read", x.seen(0), 2);
        x.read(0, 1);
        Due.due("seen: the same read again", x.seen(0), 2);
        Due.due("seen: the other client", x.seen(1), 1);
        for (int i = 2; i < 40; i++) {
            x.write(0, 2, 1);
        }
        Due.due("seen: all forty", x.seen(0), 40);
    }

    // Promise 14

    private static void agreeCountsEqualWinners() {
        CausalStore x = new CausalStore();
        x.write(0, 0, 5);
        Due.due("agree: one differs", x.agree(0, 1), 5);
        Due.due("agree: the other way round", x.agree(1, 0), 5);
        Due.due("agree: neither has it", x.agree(1, 2), 6);
        x.write(1, 0, 5);
        Due.due("agree: equal values are not the same version", x.agree(0, 1), 5);
        x.deliverAll(0);
        Due.due("agree: same winner with other versions behind it", x.agree(0, 1), 6);
        x.write(0, 5, 5);
        x.write(0, 4, 5);
        Due.due("agree: two differ", x.agree(0, 1), 4);
        Due.due("agree: with itself", x.agree(0, 0), 6);
    }
}
