/** One group of tests for each promise of the document: ordinary inputs, edges and wrong inputs. */
public final class PromiseTest {
    private static final int MIN = Integer.MIN_VALUE;
    private static final int MAX = Integer.MAX_VALUE;
    private static final int[] NOT_0_TO_2 = {-1, 3, MIN, MAX};
    private static final int[] NOT_0_TO_5 = {-1, 6, MIN, MAX};

    public static void main(String[] args) {
        newObjectHasNoVersions();
        newObjectsShareNothing();
        writeNumbersVersionsAndIsSeen();
        writeTakesPlaceAtTheClientsCentre();
        writeRefusesWrongInputs();
        writeStopsAtForty();
        readAnswersTheWinnerAndIsSeen();
        readOfTheSameVersionCountsOnce();
        readSeesOnlyWhatItRead();
        readRefusesWrongInputs();
        moveChangesTheCentre();
        moveWaitsForWhatWasSeen();
        moveNeedsVisibleNotOnlyCome();
        moveRefusesWrongInputs();
        deliverCountsWhatBecomesVisible();
        deliverReleasesSeveralAtOnce();
        deliverReleasesOnlyAtThatCentre();
        deliverRefusesWrongInputs();
        deliverAllBringsEverything();
        deliverAllReleasesHeldVersions();
        deliverAllRefusesWrongInputs();
        visibleNeedsTheWholeChain();
        visibleIsFalseForWrongInputs();
        winnerHasTheGreatestStamp();
        winnerOfEqualStampsHasTheGreaterNumber();
        winnerLooksAtItsKeyAndVisibleVersionsOnly();
        winnerRefusesWrongInputs();
        valueIsTheOneWritten();
        stampIsOneMoreThanTheGreatestSeen();
        dependsIsWhatTheClientHadSeen();
        heldCountsComeButNotVisible();
        seenCountsDistinctVersions();
        agreeCountsEqualWinners();
        refusalsHaveTheirOrder();
        refusalsChangeNothing();
        questionsChangeNothing();
        Due.end();
    }

    // Promise 1

    private static void newObjectHasNoVersions() {
        CausalStore x = new CausalStore();
        Due.due("new: value(0)", x.value(0), 0);
        Due.due("new: stamp(0)", x.stamp(0), CausalStore.NO_VERSION);
        Due.due("new: depends(0, 0)", x.depends(0, 0), false);
        for (int i = 0; i < 3; i++) {
            Due.due("new: visible(0, i)", x.visible(0, i), false);
            Due.due("new: held(i)", x.held(i), 0);
            Due.due("new: seen(i)", x.seen(i), 0);
            Due.due("new: deliver(0, i)", x.deliver(0, i), CausalStore.NO_VERSION);
            Due.due("new: deliverAll(i)", x.deliverAll(i), 0);
            for (int key = 0; key < 6; key++) {
                Due.due("new: winner(i, key)", x.winner(i, key), CausalStore.NO_VERSION);
                Due.due("new: read(i, key)", x.read(i, key), CausalStore.NO_VERSION);
            }
            for (int j = 0; j < 3; j++) {
                Due.due("new: agree(i, j)", x.agree(i, j), 6);
            }
        }
    }

    private static void newObjectsShareNothing() {
        CausalStore x = new CausalStore();
        x.write(0, 0, 1);
        CausalStore y = new CausalStore();
        Due.due("second object: stamp(0)", y.stamp(0), CausalStore.NO_VERSION);
        Due.due("second object: seen(0)", y.seen(0), 0);
        Due.due("second object: write", y.write(1, 0, 2), 0);
        Due.due("first object: value(0)", x.value(0), 1);
    }

    // Promise 2

    private static void writeNumbersVersionsAndIsSeen() {
        CausalStore x = new CausalStore();
        Due.due("write: first", x.write(2, 0, 7), 0);
        Due.due("write: second", x.write(0, 5, 8), 1);
        Due.due("write: third", x.write(2, 3, 9), 2);
        Due.due("write: seen(2)", x.seen(2), 2);
        Due.due("write: seen(0)", x.seen(0), 1);
        Due.due("write: seen(1)", x.seen(1), 0);
        Due.due("write: depends(2, 0)", x.depends(2, 0), true);
    }

    private static void writeTakesPlaceAtTheClientsCentre() {
        CausalStore x = new CausalStore();
        for (int client = 0; client < 3; client++) {
            int version = x.write(client, client, 5);
            for (int centre = 0; centre < 3; centre++) {
                Due.due("write: visible where written only", x.visible(version, centre), centre == client);
                Due.due("write: winner where written only",
                    x.winner(centre, client), centre == client ? version : CausalStore.NO_VERSION);
            }
        }
        Due.due("write: has come where written", x.deliver(1, 1), CausalStore.HAS_COME);
    }

    private static void writeRefusesWrongInputs() {
        CausalStore x = new CausalStore();
        for (int bad : NOT_0_TO_2) {
            Due.due("write: client " + bad, x.write(bad, 0, 1), CausalStore.BAD_CLIENT);
        }
        for (int bad : NOT_0_TO_5) {
            Due.due("write: key " + bad, x.write(0, bad, 1), CausalStore.BAD_KEY);
        }
        Due.due("write: nothing was written", x.write(0, 0, 1), 0);
        Due.due("write: seen only the last", x.seen(0), 1);
    }

    private static void writeStopsAtForty() {
        CausalStore x = new CausalStore();
        for (int i = 0; i < 40; i++) {
            Due.due("write: number " + i, x.write(i % 3, i % 6, 100 + i), i);
        }
        Due.due("write: forty-first", x.write(0, 0, 1), CausalStore.FULL);
        Due.due("write: forty-second", x.write(2, 5, 1), CausalStore.FULL);
        Due.due("full: seen(0)", x.seen(0), 14);
        Due.due("full: value(39)", x.value(39), 139);
        Due.due("full: value(40)", x.value(40), 0);
        Due.due("full: stamp(39)", x.stamp(39), 14);
        Due.due("full: stamp(40)", x.stamp(40), CausalStore.NO_VERSION);
        Due.due("full: winner(0, 0)", x.winner(0, 0), 36);
        Due.due("full: visible(39, 0)", x.visible(39, 0), true);
        Due.due("full: deliver(39, 1)", x.deliver(39, 1), 0);
        Due.due("full: deliver(40, 1)", x.deliver(40, 1), CausalStore.NO_VERSION);
        Due.due("full: deliverAll(1)", x.deliverAll(1), 27);
        Due.due("full: visible(39, 1)", x.visible(39, 1), true);
        Due.due("full: held(1)", x.held(1), 0);
        Due.due("full: deliverAll(0)", x.deliverAll(0), 26);
        Due.due("full: agree(0, 1)", x.agree(0, 1), 6);
    }

    // Promise 3

    private static void readAnswersTheWinnerAndIsSeen() {
        CausalStore x = new CausalStore();
        x.write(0, 4, 1);
        Due.due("read: nothing at another centre", x.read(1, 4), CausalStore.NO_VERSION);
        Due.due("read: nothing seen by that", x.seen(1), 0);
        x.deliver(0, 1);
        Due.due("read: delivered", x.read(1, 4), 0);
        Due.due("read: seen by that", x.seen(1), 1);
        Due.due("read: another key", x.read(1, 3), CausalStore.NO_VERSION);
        x.write(1, 2, 1);
        Due.due("read: made a dependency", x.depends(1, 0), true);
        x.write(1, 4, 1);
        Due.due("read: later winner", x.read(1, 4), 2);
        Due.due("read: other centre's winner", x.read(0, 4), 0);
    }

    private static void readOfTheSameVersionCountsOnce() {
        CausalStore x = new CausalStore();
        x.write(0, 0, 1);
        x.read(0, 0);
        x.read(0, 0);
        Due.due("read: own version again", x.seen(0), 1);
    }

    private static void readSeesOnlyWhatItRead() {
        CausalStore x = new CausalStore();
        x.write(0, 0, 1);
        x.write(0, 1, 1);
        x.deliverAll(1);
        Due.due("read: the later one", x.read(1, 1), 1);
        Due.due("read: what it depends on is not seen", x.seen(1), 1);
        x.write(1, 2, 1);
        Due.due("read: direct dependency", x.depends(2, 1), true);
        Due.due("read: no dependency through another", x.depends(2, 0), false);
    }

    private static void readRefusesWrongInputs() {
        CausalStore x = new CausalStore();
        x.write(0, 0, 1);
        for (int bad : NOT_0_TO_2) {
            Due.due("read: client " + bad, x.read(bad, 0), CausalStore.BAD_CLIENT);
        }
        for (int bad : NOT_0_TO_5) {
            Due.due("read: key " + bad, x.read(0, bad), CausalStore.BAD_KEY);
        }
    }

    // Promise 4

    private static void moveChangesTheCentre() {
        CausalStore x = new CausalStore();
        Due.due("move: a new client", x.move(0, 2), 0);
        x.write(0, 1, 1);
        Due.due("move: writes there", x.visible(0, 2), true);
        Due.due("move: not where it was", x.visible(0, 0), false);
        Due.due("move: to where it is", x.move(0, 2), 0);
        Due.due("move: reads there", x.read(0, 1), 0);
        Due.due("move: other clients stay", x.read(1, 1), CausalStore.NO_VERSION);
    }

    private static void moveWaitsForWhatWasSeen() {
        CausalStore x = new CausalStore();
        x.write(0, 0, 1);
        Due.due("move: own write is missing", x.move(0, 1), CausalStore.BEHIND);
        x.write(0, 0, 1);
        Due.due("move: it stayed", x.visible(1, 0), true);
        x.deliver(0, 1);
        Due.due("move: one of two is missing", x.move(0, 1), CausalStore.BEHIND);
        x.deliver(1, 1);
        Due.due("move: all are visible", x.move(0, 1), 0);
        Due.due("move: reads at the new centre", x.read(0, 0), 1);
        x.write(1, 3, 1);
        x.read(0, 3);
        Due.due("move: what it read is missing", x.move(0, 0), CausalStore.BEHIND);
        x.deliver(2, 0);
        Due.due("move: what it read is visible", x.move(0, 0), 0);
    }

    private static void moveNeedsVisibleNotOnlyCome() {
        CausalStore x = new CausalStore();
        x.write(0, 0, 1);
        x.write(0, 1, 1);
        x.deliverAll(1);
        x.read(1, 1);
        x.deliver(1, 2);
        Due.due("move: come but held", x.move(1, 2), CausalStore.BEHIND);
        x.deliver(0, 2);
        Due.due("move: held no more", x.move(1, 2), 0);
    }

    private static void moveRefusesWrongInputs() {
        CausalStore x = new CausalStore();
        for (int bad : NOT_0_TO_2) {
            Due.due("move: client " + bad, x.move(bad, 0), CausalStore.BAD_CLIENT);
            Due.due("move: centre " + bad, x.move(0, bad), CausalStore.BAD_CENTRE);
        }
        x.write(0, 0, 1);
        Due.due("move: the client stayed", x.visible(0, 0), true);
    }

    // Promise 5

    private static void deliverCountsWhatBecomesVisible() {
        CausalStore x = new CausalStore();
        x.write(0, 0, 1);
        x.write(0, 1, 1);
        Due.due("deliver: without its dependency", x.deliver(1, 2), 0);
        Due.due("deliver: again, though held", x.deliver(1, 2), CausalStore.HAS_COME);
        Due.due("deliver: the dependency", x.deliver(0, 2), 2);
        Due.due("deliver: again", x.deliver(0, 2), CausalStore.HAS_COME);
        Due.due("deliver: to another centre", x.deliver(0, 1), 1);
        Due.due("deliver: and the next", x.deliver(1, 1), 1);
        Due.due("deliver: nothing is seen by that", x.seen(1), 0);
    }

    private static void deliverReleasesSeveralAtOnce() {
        CausalStore x = new CausalStore();
        for (int i = 0; i < 5; i++) {
            x.write(0, i, i);
        }
        for (int i = 4; i > 0; i--) {
            Due.due("deliver: backwards " + i, x.deliver(i, 1), 0);
        }
        Due.due("deliver: releases the chain", x.deliver(0, 1), 5);
    }

    private static void deliverReleasesOnlyAtThatCentre() {
        CausalStore x = new CausalStore();
        x.write(0, 0, 1);
        x.write(0, 1, 1);
        x.deliver(1, 1);
        x.deliver(1, 2);
        x.deliver(0, 1);
        Due.due("deliver: released at 1", x.visible(1, 1), true);
        Due.due("deliver: still held at 2", x.visible(1, 2), false);
        Due.due("deliver: held(2)", x.held(2), 1);
    }

    private static void deliverRefusesWrongInputs() {
        CausalStore x = new CausalStore();
        x.write(0, 0, 1);
        for (int bad : new int[] {-1, 1, 39, 40, 64, MIN, MAX}) {
            Due.due("deliver: version " + bad, x.deliver(bad, 1), CausalStore.NO_VERSION);
        }
        for (int bad : NOT_0_TO_2) {
            Due.due("deliver: centre " + bad, x.deliver(0, bad), CausalStore.BAD_CENTRE);
        }
        Due.due("deliver: has come nowhere by that", x.deliver(0, 1), 1);
        x.write(0, 0, 1);
        Due.due("deliver: version 1 had not come ahead", x.deliver(1, 1), 1);
    }

    // Promise 6

    private static void deliverAllBringsEverything() {
        CausalStore x = new CausalStore();
        x.write(0, 0, 1);
        x.write(1, 1, 1);
        x.write(2, 2, 1);
        Due.due("deliverAll(0)", x.deliverAll(0), 2);
        Due.due("deliverAll(0) again", x.deliverAll(0), 0);
        Due.due("deliverAll: not to 1", x.visible(0, 1), false);
        for (int version = 0; version < 3; version++) {
            Due.due("deliverAll: visible", x.visible(version, 0), true);
            Due.due("deliverAll: has come", x.deliver(version, 0), CausalStore.HAS_COME);
        }
        x.write(2, 3, 1);
        Due.due("deliverAll: later versions have not come", x.visible(3, 0), false);
        Due.due("deliverAll: later versions come later", x.deliver(3, 0), 1);
    }

    private static void deliverAllReleasesHeldVersions() {
        CausalStore x = new CausalStore();
        x.write(0, 0, 1);
        x.write(0, 1, 1);
        x.write(0, 2, 1);
        x.deliver(2, 1);
        x.deliver(1, 1);
        Due.due("deliverAll: held before", x.held(1), 2);
        Due.due("deliverAll: counts the held ones", x.deliverAll(1), 3);
        Due.due("deliverAll: held after", x.held(1), 0);
    }

    private static void deliverAllRefusesWrongInputs() {
        CausalStore x = new CausalStore();
        x.write(0, 0, 1);
        for (int bad : NOT_0_TO_2) {
            Due.due("deliverAll: centre " + bad, x.deliverAll(bad), CausalStore.BAD_CENTRE);
        }
    }

    // Promise 7

    private static void visibleNeedsTheWholeChain() {
        CausalStore x = new CausalStore();
        x.write(0, 0, 1);
        x.write(0, 1, 1);
        x.deliverAll(1);
        x.read(1, 1);
        x.write(1, 2, 1);
        x.deliver(1, 2);
        x.deliver(2, 2);
        Due.due("visible: its dependency is held itself", x.visible(2, 2), false);
        Due.due("visible: held one", x.visible(1, 2), false);
        Due.due("visible: not come", x.visible(0, 2), false);
        Due.due("visible: the chain is released", x.deliver(0, 2), 3);
        Due.due("visible: end of the chain", x.visible(2, 2), true);
    }

    private static void visibleIsFalseForWrongInputs() {
        CausalStore x = new CausalStore();
        x.write(0, 0, 1);
        Due.due("visible(0, 0)", x.visible(0, 0), true);
        for (int bad : new int[] {-1, 1, 40, 64, MIN, MAX}) {
            Due.due("visible: version " + bad, x.visible(bad, 0), false);
        }
        for (int bad : NOT_0_TO_2) {
            Due.due("visible: centre " + bad, x.visible(0, bad), false);
        }
    }

    // Promise 8

    private static void winnerHasTheGreatestStamp() {
        CausalStore x = new CausalStore();
        x.write(0, 5, 1);
        x.write(0, 3, 1);
        x.write(1, 3, 1);
        x.deliverAll(2);
        Due.due("winner: stamp 2 beats the later stamp 1", x.winner(2, 3), 1);
        Due.due("winner: at 1 the only one", x.winner(1, 3), 2);
        x.deliver(2, 0);
        Due.due("winner: the same at 0", x.winner(0, 3), 1);
    }

    private static void winnerOfEqualStampsHasTheGreaterNumber() {
        CausalStore x = new CausalStore();
        x.write(2, 0, 90);
        x.write(0, 0, 10);
        x.write(1, 0, 50);
        x.deliverAll(0);
        Due.due("winner: greatest of three numbers", x.winner(0, 0), 2);
        x.deliver(1, 2);
        Due.due("winner: greater of two numbers", x.winner(2, 0), 1);
        x.deliver(0, 1);
        Due.due("winner: an older one that comes later", x.winner(1, 0), 2);
    }

    private static void winnerLooksAtItsKeyAndVisibleVersionsOnly() {
        CausalStore x = new CausalStore();
        x.write(1, 0, 1);
        x.write(0, 1, 1);
        x.write(0, 0, 1);
        x.deliver(2, 1);
        Due.due("winner: a held one does not win", x.winner(1, 0), 0);
        Due.due("winner: no version of the key", x.winner(1, 1), CausalStore.NO_VERSION);
        x.deliver(1, 1);
        Due.due("winner: wins when visible", x.winner(1, 0), 2);
        Due.due("winner: of the other key", x.winner(1, 1), 1);
    }

    private static void winnerRefusesWrongInputs() {
        CausalStore x = new CausalStore();
        x.write(0, 0, 1);
        for (int bad : NOT_0_TO_2) {
            Due.due("winner: centre " + bad, x.winner(bad, 0), CausalStore.BAD_CENTRE);
        }
        for (int bad : NOT_0_TO_5) {
            Due.due("winner: key " + bad, x.winner(0, bad), CausalStore.BAD_KEY);
        }
    }

    // Promise 9

    private static void valueIsTheOneWritten() {
        CausalStore x = new CausalStore();
        int[] values = {7, 0, -1, -5, MIN, MAX};
        for (int value : values) {
            x.write(1, 0, value);
        }
        for (int i = 0; i < values.length; i++) {
            Due.due("value(" + i + ")", x.value(i), values[i]);
        }
        for (int bad : new int[] {-1, 6, 39, 40, MIN, MAX}) {
            Due.due("value(" + bad + ")", x.value(bad), 0);
        }
    }

    // Promise 10

    private static void stampIsOneMoreThanTheGreatestSeen() {
        CausalStore x = new CausalStore();
        x.write(0, 0, 1);
        x.write(0, 0, 1);
        x.write(0, 1, 1);
        x.write(1, 2, 1);
        Due.due("stamp: nothing seen", x.stamp(0), 1);
        Due.due("stamp: one seen", x.stamp(1), 2);
        Due.due("stamp: two seen", x.stamp(2), 3);
        Due.due("stamp: another client", x.stamp(3), 1);
        x.deliverAll(1);
        x.write(1, 2, 1);
        Due.due("stamp: delivered is not seen", x.stamp(4), 2);
        x.read(1, 0);
        x.write(1, 2, 1);
        Due.due("stamp: greatest is the own one", x.stamp(5), 3);
        x.deliverAll(2);
        x.read(2, 1);
        x.write(2, 2, 1);
        Due.due("stamp: greatest is not how many were seen", x.stamp(6), 4);
        x.write(1, 2, 1);
        Due.due("stamp: not of those unseen", x.stamp(7), 4);
        for (int bad : new int[] {-1, 8, 39, 40, MIN, MAX}) {
            Due.due("stamp(" + bad + ")", x.stamp(bad), CausalStore.NO_VERSION);
        }
    }

    // Promise 11

    private static void dependsIsWhatTheClientHadSeen() {
        CausalStore x = new CausalStore();
        x.write(0, 0, 1);
        x.write(0, 1, 1);
        x.write(1, 2, 1);
        Due.due("depends(1, 0)", x.depends(1, 0), true);
        Due.due("depends(0, 1)", x.depends(0, 1), false);
        Due.due("depends(1, 1)", x.depends(1, 1), false);
        Due.due("depends(2, 0)", x.depends(2, 0), false);
        x.deliverAll(1);
        x.read(1, 0);
        Due.due("depends: a later read does not count", x.depends(2, 0), false);
        for (int bad : new int[] {-1, 3, 40, 64, 65, -64, MIN, MAX}) {
            Due.due("depends(" + bad + ", 0)", x.depends(bad, 0), false);
            Due.due("depends(1, " + bad + ")", x.depends(1, bad), false);
        }
    }

    // Promise 12

    private static void heldCountsComeButNotVisible() {
        CausalStore x = new CausalStore();
        x.write(0, 0, 1);
        x.write(0, 1, 1);
        x.write(0, 2, 1);
        Due.due("held: not come", x.held(1), 0);
        x.deliver(2, 1);
        Due.due("held: one", x.held(1), 1);
        x.deliver(1, 1);
        Due.due("held: two", x.held(1), 2);
        Due.due("held: at the writer's centre", x.held(0), 0);
        x.deliver(0, 1);
        Due.due("held: released", x.held(1), 0);
        for (int bad : NOT_0_TO_2) {
            Due.due("held(" + bad + ")", x.held(bad), CausalStore.BAD_CENTRE);
        }
    }

    // Promise 13

    private static void seenCountsDistinctVersions() {
        CausalStore x = new CausalStore();
        x.write(0, 0, 1);
        x.write(1, 1, 1);
        x.deliverAll(0);
        Due.due("seen: delivered is not seen", x.seen(0), 1);
        x.read(0, 1);
        Due.due("seen: one written and one read", x.seen(0), 2);
        x.read(0, 1);
        Due.due("seen: the same read again", x.seen(0), 2);
        Due.due("seen: the other client", x.seen(1), 1);
        for (int bad : NOT_0_TO_2) {
            Due.due("seen(" + bad + ")", x.seen(bad), CausalStore.BAD_CLIENT);
        }
        for (int i = 2; i < 40; i++) {
            x.write(0, 2, 1);
        }
        Due.due("seen: all forty", x.seen(0), 40);
    }

    // Promise 14

    private static void agreeCountsEqualWinners() {
        CausalStore x = new CausalStore();
        x.write(0, 0, 5);
        Due.due("agree: one differs", x.agree(0, 1), 5);
        Due.due("agree: the other way round", x.agree(1, 0), 5);
        Due.due("agree: neither has it", x.agree(1, 2), 6);
        x.write(1, 0, 5);
        Due.due("agree: equal values are not the same version", x.agree(0, 1), 5);
        x.deliverAll(0);
        Due.due("agree: same winner with other versions behind it", x.agree(0, 1), 6);
        x.write(0, 5, 5);
        x.write(0, 4, 5);
        Due.due("agree: two differ", x.agree(0, 1), 4);
        Due.due("agree: with itself", x.agree(0, 0), 6);
        for (int bad : NOT_0_TO_2) {
            Due.due("agree(" + bad + ", 0)", x.agree(bad, 0), CausalStore.BAD_CENTRE);
            Due.due("agree(0, " + bad + ")", x.agree(0, bad), CausalStore.BAD_CENTRE);
            Due.due("agree(" + bad + ", " + bad + ")", x.agree(bad, bad), CausalStore.BAD_CENTRE);
        }
    }

    // Promise 15

    private static void refusalsHaveTheirOrder() {
        CausalStore x = new CausalStore();
        Due.due("order: read client, key", x.read(3, 6), CausalStore.BAD_CLIENT);
        Due.due("order: read key, version", x.read(0, 6), CausalStore.BAD_KEY);
        Due.due("order: winner centre, key", x.winner(3, 6), CausalStore.BAD_CENTRE);
        Due.due("order: winner key, version", x.winner(0, 6), CausalStore.BAD_KEY);
        Due.due("order: deliver version, centre", x.deliver(0, 3), CausalStore.NO_VERSION);
        x.write(0, 0, 1);
        Due.due("order: deliver centre, has come", x.deliver(0, 3), CausalStore.BAD_CENTRE);
        Due.due("order: move client, centre", x.move(3, 3), CausalStore.BAD_CLIENT);
        Due.due("order: move centre, behind", x.move(0, 3), CausalStore.BAD_CENTRE);
        Due.due("order: write client, key", x.write(3, 6, 1), CausalStore.BAD_CLIENT);
        for (int i = 1; i < 40; i++) {
            x.write(0, 0, 1);
        }
        Due.due("order: write client, full", x.write(3, 0, 1), CausalStore.BAD_CLIENT);
        Due.due("order: write key, full", x.write(0, 6, 1), CausalStore.BAD_KEY);
        Due.due("order: write client, key, full", x.write(3, 6, 1), CausalStore.BAD_CLIENT);
        Due.due("order: write full", x.write(0, 0, 1), CausalStore.FULL);
    }

    private static void refusalsChangeNothing() {
        CausalStore x = heldStore();
        String before = stateOf(x);
        x.write(3, 0, 1);
        x.write(0, 6, 1);
        x.read(-1, 0);
        x.read(0, 6);
        x.read(2, 0);
        x.move(3, 1);
        x.move(0, 3);
        x.move(0, 1);
        x.deliver(3, 1);
        x.deliver(0, 3);
        x.deliver(1, 1);
        x.deliverAll(3);
        Due.due("refusals left " + stateOf(x) + ", before " + before, stateOf(x).equals(before), true);
        Due.due("refusals: client 0 is still at 0", whereIs(x, 0), 0);
    }

    private static void questionsChangeNothing() {
        CausalStore x = heldStore();
        String before = stateOf(x);
        Due.due("questions left " + stateOf(x) + ", before " + before, stateOf(x).equals(before), true);
        Due.due("questions: the next number", x.write(2, 0, 1), 3);
        Due.due("questions: winner made nothing seen", x.depends(3, 0), false);
        Due.due("questions: held is held", x.deliver(0, 1), 2);
    }

    // Version 1 is held at centre 1; client 0 has seen what centre 1 does not show.
    private static CausalStore heldStore() {
        CausalStore x = new CausalStore();
        x.write(0, 0, 11);
        x.write(0, 1, 12);
        x.write(1, 1, 13);
        x.deliver(1, 1);
        return x;
    }

    private static int whereIs(CausalStore x, int client) {
        int version = x.write(client, 0, 1);
        for (int centre = 0; centre < 3; centre++) {
            if (x.visible(version, centre)) {
                return centre;
            }
        }
        return -1;
    }

    private static String stateOf(CausalStore x) {
        StringBuilder state = new StringBuilder();
        for (int version = 0; version < 5; version++) {
            state.append(x.value(version)).append(' ').append(x.stamp(version)).append(' ');
            for (int other = 0; other < 4; other++) {
                state.append(x.depends(version, other) ? 'd' : '-');
            }
            for (int centre = 0; centre < 3; centre++) {
                state.append(x.visible(version, centre) ? 'v' : '-');
            }
            state.append(' ');
        }
        for (int i = 0; i < 3; i++) {
            state.append(x.held(i)).append(x.seen(i)).append(x.agree(i, (i + 1) % 3)).append(' ');
            for (int key = 0; key < 6; key++) {
                state.append(x.winner(i, key)).append(' ');
            }
        }
        return state.toString();
    }
}
