/** Each sentence of the document that names a boundary case, in the document's order. */
public final class EdgeTest {
    private static final int MIN = Integer.MIN_VALUE;
    private static final int MAX = Integer.MAX_VALUE;

    public static void main(String[] args) {
        terms();
        promise1NoVersions();
        promise2Write();
        promise3Read();
        promise4Move();
        promise5Deliver();
        promise6DeliverAll();
        promise7Visible();
        promise8Winner();
        promise9Value();
        promise10Stamp();
        promise11Depends();
        promise12Held();
        promise13Seen();
        promise14Agree();
        Due.end();
    }

    // Terms

    private static void terms() {
        everyKeyIsItsOwn();
        versionsAreNumberedFrom0To39();
        clientsBeginAtTheirCentres();
        nothingIsSeenAtTheStart();
        dependsOnAllSeenAndNoMore();
        firstStampIs1();
        stampsReach40();
        hasComeAtOnceWhereWritten();
        oneMissingHoldsAllThatNeedIt();
        fortiethOfOneKeyWins();
        greatestStampBeatsGreatestNumber();
        ofEqualStampsTheGreaterNumberWins();
    }

    private static void everyKeyIsItsOwn() {
        Due.sentence("Terms", "There are KEYS 0 to 5");
        CausalStore x = new CausalStore();
        for (int key = 0; key < 6; key++) {
            Due.due("write(0, " + key + ", 7)", x.write(0, key, 7), key);
        }
        for (int key = 0; key < 6; key++) {
            Due.due("winner(0, " + key + ")", x.winner(0, key), key);
            Due.due("read(0, " + key + ")", x.read(0, key), key);
        }
    }

    private static void versionsAreNumberedFrom0To39() {
        Due.sentence("Terms", "Every write makes a VERSION, numbered from 0: at most forty");
        for (int client = 0; client < 3; client++) {
            CausalStore x = new CausalStore();
            for (int version = 0; version < 40; version++) {
                Due.due("write(" + client + ", 5, 7)", x.write(client, 5, 7), version);
            }
            Due.due("the forty-first write", x.write(client, 5, 7), CausalStore.FULL);
        }
    }

    private static void clientsBeginAtTheirCentres() {
        Due.sentence("Terms", "Three CLIENTS (0 to 2) begin at the centre of the same number");
        for (int client = 0; client < 3; client++) {
            CausalStore x = new CausalStore();
            x.write(client, 0, 7);
            for (int centre = 0; centre < 3; centre++) {
                Due.due("client " + client + " began at " + centre, x.visible(0, centre), centre == client);
                Due.due("client " + centre + " reads 0", x.read(centre, 0),
                    centre == client ? 0 : CausalStore.NO_VERSION);
            }
        }
    }

    private static void nothingIsSeenAtTheStart() {
        Due.sentence("Terms", "A client has SEEN a set of versions, empty at the start");
        for (int client = 0; client < 3; client++) {
            CausalStore x = new CausalStore();
            x.write((client + 1) % 3, 0, 7);
            x.deliverAll(client);
            Due.due("seen(" + client + ")", x.seen(client), 0);
            x.write(client, 0, 7);
            Due.due("client " + client + ": depends(1, 0)", x.depends(1, 0), false);
        }
    }

    private static void dependsOnAllSeenAndNoMore() {
        Due.sentence("Terms", "A version DEPENDS ON all versions that its client had seen when it wrote it");
        for (int a = 0; a < 40; a++) {
            CausalStore x = chain();
            for (int b = 0; b < 40; b++) {
                Due.due("depends(" + a + ", " + b + ")", x.depends(a, b), b < a);
            }
        }
    }

    private static void firstStampIs1() {
        Due.sentence("Terms", "or 1 if there are none");
        CausalStore x = new CausalStore();
        for (int client = 0; client < 3; client++) {
            int version = x.write(client, 0, MAX);
            x.deliverAll((client + 1) % 3);
            Due.due("stamp(" + version + ")", x.stamp(version), 1);
        }
    }

    private static void stampsReach40() {
        Due.sentence("Terms", "Its STAMP is 1 more than the greatest stamp of these");
        CausalStore x = chain();
        for (int version = 0; version < 40; version++) {
            Due.due("stamp(" + version + ")", x.stamp(version), version + 1);
        }
        // Here the greatest stamp is neither the last that was seen nor how many were seen.
        CausalStore y = new CausalStore();
        write(y, 0, 5, 38);
        y.deliverAll(1);
        y.read(1, 5);
        y.write(2, 0, 7);
        y.deliver(38, 1);
        y.read(1, 0);
        y.write(1, 1, 7);
        Due.due("stamp(39) after stamps 38 and 1 were seen", y.stamp(39), 39);
    }

    private static void hasComeAtOnceWhereWritten() {
        Due.sentence("Terms", "A version HAS COME to the centre at which it was written at once");
        for (int client = 0; client < 3; client++) {
            CausalStore x = new CausalStore();
            x.write(client, 0, 7);
            for (int centre = 0; centre < 3; centre++) {
                Due.due("written at " + client + ": deliver(0, " + centre + ")", x.deliver(0, centre),
                    centre == client ? CausalStore.HAS_COME : 1);
            }
        }
    }

    private static void oneMissingHoldsAllThatNeedIt() {
        Due.sentence("Terms", "and all versions that it depends on are visible there");
        for (int missing = 0; missing < 40; missing++) {
            CausalStore x = chain();
            deliverAllBut(x, missing, 1);
            for (int version = 0; version < 40; version++) {
                Due.due("without " + missing + ": visible(" + version + ", 1)",
                    x.visible(version, 1), version < missing);
            }
        }
    }

    private static void fortiethOfOneKeyWins() {
        Due.sentence("Terms", "the visible version of that key with the greatest stamp");
        CausalStore x = new CausalStore();
        for (int version = 0; version < 40; version++) {
            x.write(0, 5, -version);
            Due.due("winner(0, 5)", x.winner(0, 5), version);
        }
    }

    private static void greatestStampBeatsGreatestNumber() {
        Due.sentence("Terms", "the visible version of that key with the greatest stamp");
        CausalStore x = new CausalStore();
        write(x, 0, 0, 39);
        x.write(1, 0, MAX);
        x.deliverAll(2);
        Due.due("winner(2, 0) of stamp 39 and number 39", x.winner(2, 0), 38);
        CausalStore y = new CausalStore();
        y.write(0, 0, 7);
        y.write(0, 0, 7);
        y.write(1, 0, 7);
        y.deliverAll(2);
        Due.due("winner(2, 0) of stamp 2 and number 2", y.winner(2, 0), 1);
    }

    private static void ofEqualStampsTheGreaterNumberWins() {
        Due.sentence("Terms", "of equal stamps the one with the greater number");
        CausalStore x = new CausalStore();
        write(x, 2, 0, 20);
        write(x, 1, 0, 20);
        x.deliverAll(0);
        Due.due("winner(0, 0) of 19 and 39, both with stamp 20", x.winner(0, 0), 39);
        CausalStore y = new CausalStore();
        y.write(2, 0, MAX);
        y.write(1, 0, MIN);
        y.deliver(1, 0);
        y.deliver(0, 0);
        Due.due("winner(0, 0), the lesser number come last", y.winner(0, 0), 1);
    }

    // Promise 1

    private static void promise1NoVersions() {
        Due.sentence("Promise 1", "No versions");
        CausalStore x = new CausalStore();
        Due.due("value(0)", x.value(0), 0);
        Due.due("stamp(0)", x.stamp(0), CausalStore.NO_VERSION);
        Due.due("depends(0, 0)", x.depends(0, 0), false);
        for (int number = 0; number < 3; number++) {
            Due.due("visible(0, " + number + ")", x.visible(0, number), false);
            Due.due("held(" + number + ")", x.held(number), 0);
            Due.due("seen(" + number + ")", x.seen(number), 0);
            Due.due("deliver(0, " + number + ")", x.deliver(0, number), CausalStore.NO_VERSION);
            Due.due("deliverAll(" + number + ")", x.deliverAll(number), 0);
            for (int key = 0; key < 6; key++) {
                Due.due("winner(" + number + ", " + key + ")", x.winner(number, key), CausalStore.NO_VERSION);
                Due.due("read(" + number + ", " + key + ")", x.read(number, key), CausalStore.NO_VERSION);
            }
            for (int other = 0; other < 3; other++) {
                Due.due("agree(" + number + ", " + other + ")", x.agree(number, other), 6);
                Due.due("move(" + number + ", " + other + ")", x.move(number, other), 0);
            }
        }
        Due.due("write(0, 0, 7)", x.write(0, 0, 7), 0);
    }

    // Promise 2

    private static void promise2Write() {
        writeRefusesClients();
        writeRefusesKeys();
        writeRefusesTheFortyFirst();
        writeAnswersTheNumberWhateverTheValue();
    }

    private static void writeRefusesClients() {
        Due.sentence("Promise 2", "client not in 0 to 2: BAD_CLIENT");
        CausalStore x = new CausalStore();
        for (int client : Edges.outside(3)) {
            Due.due("write(" + client + ", 0, 7)", x.write(client, 0, 7), CausalStore.BAD_CLIENT);
        }
        Due.due("write(0, 0, 7)", x.write(0, 0, 7), 0);
        Due.due("write(2, 0, 7)", x.write(2, 0, 7), 1);
    }

    private static void writeRefusesKeys() {
        Due.sentence("Promise 2", "key not in 0 to 5: BAD_KEY");
        CausalStore x = new CausalStore();
        for (int key : Edges.outside(6)) {
            Due.due("write(0, " + key + ", 7)", x.write(0, key, 7), CausalStore.BAD_KEY);
        }
        Due.due("write(0, 0, 7)", x.write(0, 0, 7), 0);
        Due.due("write(0, 5, 7)", x.write(0, 5, 7), 1);
    }

    private static void writeRefusesTheFortyFirst() {
        Due.sentence("Promise 2", "there are forty versions: FULL");
        CausalStore x = new CausalStore();
        for (int version = 0; version < 40; version++) {
            // A refused write takes no number.
            x.write(3, 0, 7);
            Due.due("write number " + version, x.write(version % 3, version % 6, 7), version);
        }
        for (int client = 0; client < 3; client++) {
            for (int key = 0; key < 6; key++) {
                Due.due("write(" + client + ", " + key + ", 7)", x.write(client, key, 7), CausalStore.FULL);
            }
        }
    }

    private static void writeAnswersTheNumberWhateverTheValue() {
        Due.sentence("Promise 2", "Else answers the version's number");
        CausalStore x = new CausalStore();
        int[] values = {MIN, MIN + 1, -7, -5, -3, -1, 0, 1, MAX - 1, MAX};
        for (int version = 0; version < values.length; version++) {
            Due.due("write(1, 1, " + values[version] + ")", x.write(1, 1, values[version]), version);
        }
    }

    // Promise 3

    private static void promise3Read() {
        readRefusesClients();
        readRefusesKeys();
        readOfNothingSeesNothing();
        readOfTheFirstAndTheFortieth();
    }

    private static void readRefusesClients() {
        Due.sentence("Promise 3", "BAD_CLIENT");
        CausalStore x = oneEverywhere();
        for (int client : Edges.outside(3)) {
            Due.due("read(" + client + ", 0)", x.read(client, 0), CausalStore.BAD_CLIENT);
        }
        Due.due("read(0, 0)", x.read(0, 0), 0);
        Due.due("read(2, 0)", x.read(2, 0), 0);
    }

    private static void readRefusesKeys() {
        Due.sentence("Promise 3", "BAD_KEY");
        CausalStore x = oneEverywhere();
        for (int key : Edges.outside(6)) {
            Due.due("read(0, " + key + ")", x.read(0, key), CausalStore.BAD_KEY);
        }
        Due.due("read(0, 0)", x.read(0, 0), 0);
        Due.due("read(0, 5)", x.read(0, 5), CausalStore.NO_VERSION);
    }

    private static void readOfNothingSeesNothing() {
        Due.sentence("Promise 3", "Else answers the winner, or NO_VERSION");
        CausalStore x = new CausalStore();
        x.write(0, 0, 7);
        x.write(0, 1, 7);
        x.deliver(1, 1);
        Due.due("read(1, 0), not come", x.read(1, 0), CausalStore.NO_VERSION);
        Due.due("read(1, 1), held", x.read(1, 1), CausalStore.NO_VERSION);
        Due.due("read(1, 2), never written", x.read(1, 2), CausalStore.NO_VERSION);
        Due.due("seen(1)", x.seen(1), 0);
        Due.due("move(1, 2)", x.move(1, 2), 0);
    }

    private static void readOfTheFirstAndTheFortieth() {
        Due.sentence("Promise 3", "has seen the winner of the key there");
        CausalStore x = new CausalStore();
        x.write(0, 5, 7);
        write(x, 0, 0, 38);
        x.write(0, 1, 7);
        x.deliverAll(2);
        Due.due("read(2, 5)", x.read(2, 5), 0);
        Due.due("seen(2) after one read", x.seen(2), 1);
        Due.due("read(2, 1)", x.read(2, 1), 39);
        Due.due("seen(2) after two reads", x.seen(2), 2);
        Due.due("read(2, 1) again", x.read(2, 1), 39);
        Due.due("seen(2) after the same read", x.seen(2), 2);
    }

    // Promise 4

    private static void promise4Move() {
        moveRefusesClients();
        moveRefusesCentres();
        moveOfAClientThatHasSeenNothing();
        moveIsBehindByOneOfForty();
        moveIsBehindByOneAlone();
        moveIsBehindByOneThatIsHeld();
        moveToWhereItIs();
    }

    private static void moveRefusesClients() {
        Due.sentence("Promise 4", "BAD_CLIENT");
        CausalStore x = new CausalStore();
        for (int client : Edges.outside(3)) {
            Due.due("move(" + client + ", 0)", x.move(client, 0), CausalStore.BAD_CLIENT);
        }
        Due.due("move(0, 1)", x.move(0, 1), 0);
        Due.due("move(2, 1)", x.move(2, 1), 0);
    }

    private static void moveRefusesCentres() {
        Due.sentence("Promise 4", "centre not in 0 to 2: BAD_CENTRE");
        CausalStore x = new CausalStore();
        for (int centre : Edges.outside(3)) {
            Due.due("move(1, " + centre + ")", x.move(1, centre), CausalStore.BAD_CENTRE);
        }
        Due.due("move(1, 0)", x.move(1, 0), 0);
        Due.due("move(1, 2)", x.move(1, 2), 0);
    }

    private static void moveOfAClientThatHasSeenNothing() {
        Due.sentence("Promise 4", "some version that it has seen is not visible there: BEHIND");
        CausalStore x = chain();
        for (int centre = 0; centre < 3; centre++) {
            Due.due("move(2, " + centre + "), nothing seen", x.move(2, centre), 0);
        }
    }

    private static void moveIsBehindByOneOfForty() {
        Due.sentence("Promise 4", "some version that it has seen is not visible there: BEHIND");
        for (int missing = 0; missing < 40; missing++) {
            CausalStore x = allSeenByClient1();
            deliverAllBut(x, missing, 2);
            Due.due("without " + missing + ": move(1, 2)", x.move(1, 2), CausalStore.BEHIND);
            x.deliver(missing, 2);
            Due.due("with all forty: move(1, 2)", x.move(1, 2), 0);
        }
    }

    private static void moveIsBehindByOneAlone() {
        Due.sentence("Promise 4", "some version that it has seen is not visible there: BEHIND");
        CausalStore x = new CausalStore();
        x.write(1, 1, 7);
        write(x, 0, 0, 39);
        x.deliverAll(1);
        x.read(1, 0);
        deliverAllBut(x, 0, 2);
        Due.due("move(1, 2), 0 alone is missing", x.move(1, 2), CausalStore.BEHIND);
        x.deliver(0, 2);
        Due.due("move(1, 2), none is missing", x.move(1, 2), 0);
    }

    private static void moveIsBehindByOneThatIsHeld() {
        Due.sentence("Promise 4", "some version that it has seen is not visible there: BEHIND");
        CausalStore x = new CausalStore();
        x.write(0, 0, 7);
        x.write(0, 1, 7);
        x.deliverAll(1);
        x.read(1, 1);
        x.deliver(1, 2);
        Due.due("move(1, 2), come but held", x.move(1, 2), CausalStore.BEHIND);
        x.deliver(0, 2);
        Due.due("move(1, 2), held no more", x.move(1, 2), 0);
    }

    private static void moveToWhereItIs() {
        Due.sentence("Promise 4", "Else answers 0");
        CausalStore x = chain();
        Due.due("move(0, 0) with forty seen", x.move(0, 0), 0);
        Due.due("read(0, 5)", x.read(0, 5), 35);
    }

    // Promise 5

    private static void promise5Deliver() {
        deliverRefusesVersions();
        deliverRefusesCentres();
        deliverRefusesWhatHasCome();
        deliverShowsFrom0To40();
    }

    private static void deliverRefusesVersions() {
        Due.sentence("Promise 5", "It doesn't exist: NO_VERSION");
        CausalStore x = new CausalStore();
        for (int written = 0; written <= 40; written++) {
            Due.due(written + " written: deliver(-1, 1)", x.deliver(-1, 1), CausalStore.NO_VERSION);
            Due.due(written + " written: deliver(" + written + ", 1)", x.deliver(written, 1), CausalStore.NO_VERSION);
            x.write(0, 0, 7);
        }
        for (int version : Edges.outside(40)) {
            Due.due("deliver(" + version + ", 1)", x.deliver(version, 1), CausalStore.NO_VERSION);
        }
        Due.due("deliver(0, 1)", x.deliver(0, 1), 1);
        Due.due("deliver(39, 1)", x.deliver(39, 1), 0);
    }

    private static void deliverRefusesCentres() {
        Due.sentence("Promise 5", "BAD_CENTRE");
        CausalStore x = new CausalStore();
        x.write(1, 0, 7);
        for (int centre : Edges.outside(3)) {
            Due.due("deliver(0, " + centre + ")", x.deliver(0, centre), CausalStore.BAD_CENTRE);
        }
        Due.due("deliver(0, 0)", x.deliver(0, 0), 1);
        Due.due("deliver(0, 2)", x.deliver(0, 2), 1);
    }

    private static void deliverRefusesWhatHasCome() {
        Due.sentence("Promise 5", "it has come there: HAS_COME");
        CausalStore x = chain();
        for (int version = 39; version >= 0; version--) {
            Due.due("deliver(" + version + ", 0), written there", x.deliver(version, 0), CausalStore.HAS_COME);
            x.deliver(version, 1);
            Due.due("deliver(" + version + ", 1), delivered", x.deliver(version, 1), CausalStore.HAS_COME);
        }
        x.deliverAll(2);
        Due.due("deliver(0, 2), delivered with all", x.deliver(0, 2), CausalStore.HAS_COME);
        Due.due("deliver(39, 2), delivered with all", x.deliver(39, 2), CausalStore.HAS_COME);
    }

    private static void deliverShowsFrom0To40() {
        Due.sentence("Promise 5", "Else answers how many versions became visible there by this");
        for (int missing = 0; missing < 40; missing++) {
            CausalStore x = chain();
            deliverAllBut(x, missing, 2);
            Due.due("deliver(" + missing + ", 2) as the last", x.deliver(missing, 2), 40 - missing);
        }
        CausalStore y = chain();
        for (int version = 39; version > 0; version--) {
            Due.due("deliver(" + version + ", 1), backwards", y.deliver(version, 1), 0);
        }
        Due.due("deliver(0, 1), backwards", y.deliver(0, 1), 40);
    }

    // Promise 6

    private static void promise6DeliverAll() {
        deliverAllRefusesCentres();
        deliverAllOfNone();
        deliverAllOfForty();
        deliverAllLeavesLaterVersionsOut();
    }

    private static void deliverAllRefusesCentres() {
        Due.sentence("Promise 6", "BAD_CENTRE");
        CausalStore x = new CausalStore();
        x.write(1, 0, 7);
        for (int centre : Edges.outside(3)) {
            Due.due("deliverAll(" + centre + ")", x.deliverAll(centre), CausalStore.BAD_CENTRE);
        }
        Due.due("deliverAll(0)", x.deliverAll(0), 1);
        Due.due("deliverAll(2)", x.deliverAll(2), 1);
    }

    private static void deliverAllOfNone() {
        Due.sentence("Promise 6", "All versions that have not come to the centre come there");
        CausalStore x = chain();
        Due.due("deliverAll(0), all written there", x.deliverAll(0), 0);
        x.deliverAll(1);
        Due.due("deliverAll(1), all delivered", x.deliverAll(1), 0);
        Due.due("seen(1)", x.seen(1), 0);
        Due.due("visible(0, 2)", x.visible(0, 2), false);
    }

    private static void deliverAllOfForty() {
        Due.sentence("Promise 6", "Else answers how many became visible there by this");
        Due.due("deliverAll(1), none come", chain().deliverAll(1), 40);
        for (int missing = 0; missing < 40; missing++) {
            CausalStore x = chain();
            deliverAllBut(x, missing, 2);
            Due.due("deliverAll(2), only " + missing + " not come", x.deliverAll(2), 40 - missing);
            Due.due("held(2)", x.held(2), 0);
        }
    }

    private static void deliverAllLeavesLaterVersionsOut() {
        Due.sentence("Promise 6", "All versions that have not come to the centre come there");
        CausalStore x = new CausalStore();
        for (int version = 0; version < 40; version++) {
            x.deliverAll(1);
            x.write(0, 0, 7);
            Due.due("visible(" + version + ", 1)", x.visible(version, 1), false);
            Due.due("deliver(" + version + ", 1)", x.deliver(version, 1), 1);
        }
    }

    // Promise 7

    private static void promise7Visible() {
        Due.sentence("Promise 7", "false if one doesn't exist");
        CausalStore x = new CausalStore();
        Due.due("nothing written: visible(0, 0)", x.visible(0, 0), false);
        write(x, 0, 0, 40);
        x.deliverAll(1);
        x.deliverAll(2);
        Due.due("visible(0, 0)", x.visible(0, 0), true);
        Due.due("visible(39, 2)", x.visible(39, 2), true);
        for (int version : Edges.outside(40)) {
            Due.due("visible(" + version + ", 1)", x.visible(version, 1), false);
        }
        for (int centre : Edges.outside(3)) {
            Due.due("visible(0, " + centre + ")", x.visible(0, centre), false);
            Due.due("visible(40, " + centre + ")", x.visible(40, centre), false);
            Due.due("visible(" + MIN + ", " + centre + ")", x.visible(MIN, centre), false);
        }
    }

    // Promise 8

    private static void promise8Winner() {
        winnerRefusesCentres();
        winnerRefusesKeys();
        winnerOfNothing();
    }

    private static void winnerRefusesCentres() {
        Due.sentence("Promise 8", "BAD_CENTRE");
        CausalStore x = oneEverywhere();
        for (int centre : Edges.outside(3)) {
            Due.due("winner(" + centre + ", 0)", x.winner(centre, 0), CausalStore.BAD_CENTRE);
        }
        Due.due("winner(0, 0)", x.winner(0, 0), 0);
        Due.due("winner(2, 0)", x.winner(2, 0), 0);
    }

    private static void winnerRefusesKeys() {
        Due.sentence("Promise 8", "BAD_KEY");
        CausalStore x = oneEverywhere();
        for (int key : Edges.outside(6)) {
            Due.due("winner(0, " + key + ")", x.winner(0, key), CausalStore.BAD_KEY);
        }
        Due.due("winner(0, 0)", x.winner(0, 0), 0);
        Due.due("winner(0, 5)", x.winner(0, 5), CausalStore.NO_VERSION);
    }

    private static void winnerOfNothing() {
        Due.sentence("Promise 8", "NO_VERSION if there is none");
        CausalStore x = new CausalStore();
        x.write(0, 0, 7);
        x.write(0, 5, 7);
        x.deliver(1, 1);
        Due.due("winner(1, 0), not come", x.winner(1, 0), CausalStore.NO_VERSION);
        Due.due("winner(1, 5), held", x.winner(1, 5), CausalStore.NO_VERSION);
        Due.due("winner(0, 1), never written", x.winner(0, 1), CausalStore.NO_VERSION);
        x.deliver(0, 1);
        Due.due("winner(1, 0), come", x.winner(1, 0), 0);
        Due.due("winner(1, 5), held no more", x.winner(1, 5), 1);
    }

    // Promise 9

    private static void promise9Value() {
        valueKeepsEveryInt();
        valueOfNoVersion();
    }

    private static void valueKeepsEveryInt() {
        Due.sentence("Promise 9", "The value of a version");
        int[] values = {MIN, MIN + 1, -65536, -256, -5, -1, 0, 1, 127, 128, 32767, 32768, 65536, MAX - 1, MAX};
        CausalStore x = new CausalStore();
        for (int version = 0; version < 40; version++) {
            x.write(version % 3, version % 6, values[version % values.length]);
        }
        for (int version = 0; version < 40; version++) {
            Due.due("value(" + version + ")", x.value(version), values[version % values.length]);
        }
    }

    private static void valueOfNoVersion() {
        Due.sentence("Promise 9", "0 if it doesn't exist");
        CausalStore x = new CausalStore();
        for (int written = 0; written <= 40; written++) {
            Due.due(written + " written: value(" + written + ")", x.value(written), 0);
            x.write(0, 0, 7);
        }
        for (int version : Edges.outside(40)) {
            Due.due("value(" + version + ")", x.value(version), 0);
        }
    }

    // Promise 10

    private static void promise10Stamp() {
        Due.sentence("Promise 10", "The stamp of a version; NO_VERSION");
        CausalStore x = new CausalStore();
        for (int written = 0; written <= 40; written++) {
            Due.due(written + " written: stamp(" + written + ")", x.stamp(written), CausalStore.NO_VERSION);
            x.write(0, 0, 7);
        }
        for (int version : Edges.outside(40)) {
            Due.due("stamp(" + version + ")", x.stamp(version), CausalStore.NO_VERSION);
        }
        Due.due("stamp(0)", x.stamp(0), 1);
        Due.due("stamp(39)", x.stamp(39), 40);
    }

    // Promise 11

    private static void promise11Depends() {
        Due.sentence("Promise 11", "false if one doesn't exist");
        Due.due("nothing written: depends(0, 0)", new CausalStore().depends(0, 0), false);
        CausalStore x = new CausalStore();
        x.write(0, 0, 7);
        Due.due("one written: depends(1, 0)", x.depends(1, 0), false);
        Due.due("one written: depends(0, 1)", x.depends(0, 1), false);
        x = chain();
        Due.due("depends(39, 0)", x.depends(39, 0), true);
        Due.due("depends(39, 38)", x.depends(39, 38), true);
        for (int bad : Edges.outside(40)) {
            Due.due("depends(" + bad + ", 0)", x.depends(bad, 0), false);
            Due.due("depends(39, " + bad + ")", x.depends(39, bad), false);
            for (int other : Edges.outside(40)) {
                Due.due("depends(" + bad + ", " + other + ")", x.depends(bad, other), false);
            }
        }
    }

    // Promise 12

    private static void promise12Held() {
        heldRefusesCentres();
        heldFrom0To39();
    }

    private static void heldRefusesCentres() {
        Due.sentence("Promise 12", "BAD_CENTRE");
        CausalStore x = Stage.HELD.make();
        for (int centre : Edges.outside(3)) {
            Due.due("held(" + centre + ")", x.held(centre), CausalStore.BAD_CENTRE);
        }
        Due.due("held(0)", x.held(0), 1);
        Due.due("held(2)", x.held(2), 0);
    }

    private static void heldFrom0To39() {
        Due.sentence("Promise 12", "How many versions have come to the centre and are not visible there");
        CausalStore x = chain();
        for (int version = 39; version > 0; version--) {
            Due.due("held(1)", x.held(1), 39 - version);
            x.deliver(version, 1);
        }
        Due.due("held(1), all but 0 come", x.held(1), 39);
        Due.due("held(0), all shown", x.held(0), 0);
        Due.due("held(2), none come", x.held(2), 0);
        x.deliver(0, 1);
        Due.due("held(1), all come", x.held(1), 0);
    }

    // Promise 13

    private static void promise13Seen() {
        seenRefusesClients();
        seenFrom0To40();
    }

    private static void seenRefusesClients() {
        Due.sentence("Promise 13", "BAD_CLIENT");
        CausalStore x = Stage.HELD.make();
        for (int client : Edges.outside(3)) {
            Due.due("seen(" + client + ")", x.seen(client), CausalStore.BAD_CLIENT);
        }
        Due.due("seen(0)", x.seen(0), 2);
        Due.due("seen(2)", x.seen(2), 2);
    }

    private static void seenFrom0To40() {
        Due.sentence("Promise 13", "How many versions the client has seen");
        CausalStore x = new CausalStore();
        for (int written = 0; written < 40; written++) {
            Due.due("seen(0), all its own", x.seen(0), written);
            Due.due("seen(1), all read", x.seen(1), written);
            Due.due("seen(2), none", x.seen(2), 0);
            x.write(0, 3, 7);
            x.deliver(written, 1);
            x.read(1, 3);
        }
        Due.due("seen(0), forty its own", x.seen(0), 40);
        Due.due("seen(1), forty read", x.seen(1), 40);
        x.write(0, 3, 7);
        Due.due("seen(0) after a write too many", x.seen(0), 40);
    }

    // Promise 14

    private static void promise14Agree() {
        agreeRefusesCentres();
        agreeFrom6To0AndBack();
        agreeOfWinnersNotOfValues();
    }

    private static void agreeRefusesCentres() {
        Due.sentence("Promise 14", "BAD_CENTRE");
        CausalStore x = Stage.HELD.make();
        for (int bad : Edges.outside(3)) {
            for (int right = 0; right < 3; right++) {
                Due.due("agree(" + bad + ", " + right + ")", x.agree(bad, right), CausalStore.BAD_CENTRE);
                Due.due("agree(" + right + ", " + bad + ")", x.agree(right, bad), CausalStore.BAD_CENTRE);
            }
            for (int other : Edges.outside(3)) {
                Due.due("agree(" + bad + ", " + other + ")", x.agree(bad, other), CausalStore.BAD_CENTRE);
            }
        }
    }

    private static void agreeFrom6To0AndBack() {
        Due.sentence("Promise 14", "How many keys have the same winner (or none) at both centres");
        CausalStore x = new CausalStore();
        for (int key = 0; key < 6; key++) {
            x.write(0, key, 7);
            Due.due("agree(0, 2), keys to " + key + " at one only", x.agree(0, 2), 5 - key);
            Due.due("agree(2, 0), keys to " + key + " at one only", x.agree(2, 0), 5 - key);
            Due.due("agree(1, 2), none at both", x.agree(1, 2), 6);
            Due.due("agree(0, 0)", x.agree(0, 0), 6);
        }
        for (int key = 0; key < 6; key++) {
            x.deliver(key, 2);
            Due.due("agree(0, 2), keys to " + key + " at both", x.agree(0, 2), key + 1);
        }
    }

    private static void agreeOfWinnersNotOfValues() {
        Due.sentence("Promise 14", "the same winner");
        CausalStore x = new CausalStore();
        for (int key = 0; key < 6; key++) {
            x.write(0, key, 7);
            x.write(1, key, 7);
        }
        Due.due("agree(0, 1), equal values of other versions", x.agree(0, 1), 0);
        x.deliverAll(0);
        Due.due("agree(0, 1), winners 1, 3 to 11 at both", x.agree(0, 1), 6);
    }

    // Stores that several tests begin with

    private static void write(CausalStore x, int client, int key, int times) {
        for (int time = 0; time < times; time++) {
            x.write(client, key, 7);
        }
    }

    // Forty versions of client 0 at centre 0, each depending on all before it.
    private static CausalStore chain() {
        CausalStore x = new CausalStore();
        for (int version = 0; version < 40; version++) {
            x.write(0, version % 6, 7);
        }
        return x;
    }

    private static CausalStore oneEverywhere() {
        CausalStore x = new CausalStore();
        x.write(0, 0, 7);
        x.deliver(0, 1);
        x.deliver(0, 2);
        return x;
    }

    // Client 1 has seen all forty versions of client 0; none has come to centre 2.
    private static CausalStore allSeenByClient1() {
        CausalStore x = new CausalStore();
        for (int version = 0; version < 40; version++) {
            x.write(0, 0, 7);
            x.deliver(version, 1);
            x.read(1, 0);
        }
        return x;
    }

    private static void deliverAllBut(CausalStore x, int missing, int centre) {
        for (int version = 0; version < 40; version++) {
            if (version != missing) {
                x.deliver(version, centre);
            }
        }
    }
}
