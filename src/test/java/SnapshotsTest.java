/** Promises 10 to 16: takeSnapshot, dropSnapshot, rollBack, getFrom, changedSince, difference, ownBlocks. */
public final class SnapshotsTest {
    private static final Check CHECK = new Check("SnapshotsTest");

    public static void main(String[] args) {
        takeSnapshot();
        dropSnapshot();
        rollBack();
        getFrom();
        changedSince();
        difference();
        ownBlocks();
        wrongSnapshots();
        CHECK.end();
    }

    private static void takeSnapshot() {
        AppendedVolume v = new AppendedVolume();
        CHECK.due(0, "a snapshot of nothing", () -> v.takeSnapshot(3));
        v.write(0, 1);
        v.write(1, 2);
        v.write(0, 3);
        v.write(2, 4);
        v.delete(2);
        CHECK.due(2, "a snapshot has the live blocks", () -> v.takeSnapshot(0));
        CHECK.noState("it is taken already", () -> v.takeSnapshot(0));
        v.write(1, 5);
        CHECK.due(2, "its block is kept", () -> v.block(1, 0));
        CHECK.due(3, "snapshots share blocks", () -> {
            v.write(5, 5);
            return v.takeSnapshot(1);
        });
        CHECK.due(0x10300, "block 2 is live and belongs to both", () -> v.neededBy(2));
        v.dropSnapshot(0);
        CHECK.due(3, "a dropped snapshot can be taken again", () -> v.takeSnapshot(0));
    }

    private static void dropSnapshot() {
        AppendedVolume v = new AppendedVolume();
        v.write(0, 1);
        v.write(1, 2);
        v.takeSnapshot(0);
        v.write(2, 3);
        v.takeSnapshot(1);
        v.write(0, 4);
        v.delete(1);
        v.delete(2);
        v.advance();
        CHECK.noState("a snapshot that is not taken", () -> v.dropSnapshot(2));
        CHECK.due(0, "shared blocks do not wait", () -> v.dropSnapshot(0));
        CHECK.due(2, "they are still kept", () -> v.block(0, 0));
        CHECK.noState("it is not taken any more", () -> v.dropSnapshot(0));
        CHECK.due(3, "the last snapshot of three kept blocks", () -> v.dropSnapshot(1));
        CHECK.due(1, "they wait since the present epoch", () -> v.block(2, 4));
        CHECK.due(0, "nobody needs them", () -> v.neededBy(0));
        v.takeSnapshot(0);
        CHECK.due(0, "a live block does not begin to wait", () -> v.dropSnapshot(0));
        CHECK.due(1, "it is live still", () -> v.block(v.addressOf(0), 0));
    }

    private static void rollBack() {
        AppendedVolume v = new AppendedVolume();
        v.write(0, 10);
        v.write(1, 20);
        v.write(2, 30);
        v.takeSnapshot(0);
        v.write(0, 11);
        v.delete(1);
        v.write(3, 40);
        v.takeSnapshot(1);
        v.write(4, 50);
        v.advance();
        CHECK.noState("a snapshot that is not taken", () -> v.rollBack(2));
        CHECK.due(4, "keys written anew, deleted, and written first", () -> v.rollBack(0));
        CHECK.due(10, "the old value", () -> v.get(0));
        CHECK.due(20, "the deleted key is there again", () -> v.get(1));
        CHECK.due(30, "an unchanged key", () -> v.get(2));
        CHECK.noElement("a key that the snapshot has not", () -> v.get(3));
        Check.Call[] states = {
            () -> v.block(0, 0), () -> v.block(1, 0), () -> v.block(2, 0),
            () -> v.block(3, 0), () -> v.block(16, 0), () -> v.block(17, 0),
        };
        CHECK.dueAll("states after rollBack", states, 1, 1, 1, 2, 2, 3);
        CHECK.due(1, "the replaced block waits since now", () -> v.block(17, 4));
        CHECK.due(0, "the snapshot stays taken", () -> v.rollBack(0));
        CHECK.due(3, "forward to the other one", () -> v.rollBack(1));
        CHECK.due(11, "its value", () -> v.get(0));
        CHECK.due(2, "the first snapshot's block is kept again", () -> v.block(1, 0));
        CHECK.noElement("and its key deleted again", () -> v.get(1));
        CHECK.due(6, "rollBack writes nothing", () -> v.count(6));
    }

    private static void getFrom() {
        AppendedVolume v = new AppendedVolume();
        v.write(0, 10);
        v.write(23, 20);
        v.takeSnapshot(3);
        v.write(0, 11);
        v.delete(23);
        CHECK.due(10, "the old value", () -> v.getFrom(3, 0));
        CHECK.due(20, "the deleted one", () -> v.getFrom(3, 23));
        CHECK.noElement("a key that it has not", () -> v.getFrom(3, 1));
        CHECK.noState("a snapshot that is not taken", () -> v.getFrom(2, 0));
        CHECK.noState("even for a key without a block", () -> v.getFrom(2, 1));
        CHECK.noIndex("a wrong key of a snapshot that is not taken", () -> v.getFrom(2, 24));
        CHECK.noIndex("a wrong key", () -> v.getFrom(3, -1));
        v.write(1, 0);
        v.relocate(0);
        CHECK.due(10, "a relocated block", () -> v.getFrom(3, 0));
        v.dropSnapshot(3);
        CHECK.noState("a dropped snapshot", () -> v.getFrom(3, 0));
    }

    private static void changedSince() {
        AppendedVolume v = new AppendedVolume();
        v.write(0, 1);
        v.write(1, 2);
        v.write(2, 3);
        v.takeSnapshot(0);
        CHECK.due(0, "nothing has changed", () -> v.changedSince(0));
        v.write(0, 1);
        CHECK.due(1, "a key written anew with the same value", () -> v.changedSince(0));
        v.relocate(0);
        CHECK.due(1, "a relocated block is no change", () -> v.changedSince(0));
        v.delete(1);
        CHECK.due(2, "a deleted key", () -> v.changedSince(0));
        v.write(9, 9);
        CHECK.due(3, "a key written first", () -> v.changedSince(0));
        v.delete(9);
        CHECK.due(2, "and deleted again", () -> v.changedSince(0));
        CHECK.noState("a snapshot that is not taken", () -> v.changedSince(1));
    }

    private static void difference() {
        AppendedVolume v = new AppendedVolume();
        v.write(0, 1);
        v.write(1, 2);
        v.write(2, 3);
        v.takeSnapshot(0);
        v.write(0, 1);
        v.delete(1);
        v.write(3, 4);
        v.takeSnapshot(3);
        CHECK.due(3, "different, missing and added blocks", () -> v.difference(0, 3));
        CHECK.due(3, "the other way round", () -> v.difference(3, 0));
        CHECK.due(0, "a snapshot and itself", () -> v.difference(3, 3));
        v.rollBack(0);
        v.takeSnapshot(1);
        CHECK.due(0, "snapshots of the same blocks", () -> v.difference(0, 1));
        v.relocate(0);
        CHECK.due(0, "a relocated block is the same in both", () -> v.difference(0, 1));
        CHECK.noState("the first one is not taken", () -> v.difference(2, 0));
        CHECK.noState("the second one is not taken", () -> v.difference(0, 2));
        CHECK.noIndex("a wrong one behind one that is not taken", () -> v.difference(2, 4));
        CHECK.noIndex("a wrong one before one that is not taken", () -> v.difference(-1, 2));
    }

    private static void ownBlocks() {
        AppendedVolume v = new AppendedVolume();
        v.write(0, 1);
        v.write(1, 2);
        v.write(2, 3);
        v.takeSnapshot(0);
        CHECK.due(0, "live blocks would not begin to wait", () -> v.ownBlocks(0));
        v.write(0, 4);
        CHECK.due(1, "a kept block would", () -> v.ownBlocks(0));
        v.takeSnapshot(1);
        v.delete(1);
        CHECK.due(1, "a shared kept block would not", () -> v.ownBlocks(0));
        CHECK.due(0, "for neither of them", () -> v.ownBlocks(1));
        v.dropSnapshot(1);
        CHECK.due(2, "it is not shared any more", () -> v.ownBlocks(0));
        CHECK.due(2, "dropping it", () -> v.dropSnapshot(0));
        CHECK.noState("a snapshot that is not taken", () -> v.ownBlocks(0));
    }

    private static void wrongSnapshots() {
        AppendedVolume v = new AppendedVolume();
        v.takeSnapshot(0);
        for (int wrong : new int[] {-1, 4, Integer.MIN_VALUE, Integer.MAX_VALUE}) {
            CHECK.noIndex("takeSnapshot " + wrong, () -> v.takeSnapshot(wrong));
            CHECK.noIndex("dropSnapshot " + wrong, () -> v.dropSnapshot(wrong));
            CHECK.noIndex("rollBack " + wrong, () -> v.rollBack(wrong));
            CHECK.noIndex("getFrom " + wrong, () -> v.getFrom(wrong, 0));
            CHECK.noIndex("changedSince " + wrong, () -> v.changedSince(wrong));
            CHECK.noIndex("difference of 0 and " + wrong, () -> v.difference(0, wrong));
            CHECK.noIndex("difference of " + wrong + " and 0", () -> v.difference(wrong, 0));
            CHECK.noIndex("ownBlocks " + wrong, () -> v.ownBlocks(wrong));
        }
    }
}
