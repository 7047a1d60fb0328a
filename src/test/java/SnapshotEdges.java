/** The boundary cases of promises 10 to 16: the snapshots. */
final class SnapshotEdges {
    private SnapshotEdges() {
    }

    static void tell(Edges e) {
        takeSnapshot(e);
        dropSnapshot(e);
        rollBack(e);
        getFrom(e);
        changedSince(e);
        difference(e);
        ownBlocks(e);
    }

    private static void takeSnapshot(Edges e) {
        e.under("Promise 10: takeSnapshot");
        e.plain("Takes a snapshot.");
        e.edge("`snapshot`: 0 to 3", "write 0 1; takeSnapshot {0..3} = 1; neededBy 0 = 0x10f00; takeSnapshot {-1 4} ! Index");
        e.edge("Returns the number of its blocks.",
            "takeSnapshot 0 = 0; write 0 1; takeSnapshot 1 = 1; write 0 2; takeSnapshot 2 = 1; delete 0; takeSnapshot 3 = 0",
            "reset 3 12 5; write {0..23} 1; takeSnapshot 0 = 24; delete {0 23}; takeSnapshot 1 = 22");
        e.edge("Throws `IndexOutOfBoundsException` if the snapshot does not exist",
            "takeSnapshot {-1 -4 4 5 8 min max} ! Index; takeSnapshot {0..3} = 0; takeSnapshot {-1 4 min max} ! Index");
        e.edge("Throws `IllegalStateException` if it is taken already",
            "takeSnapshot {0..3} = 0; takeSnapshot {0..3} ! State; dropSnapshot 0; takeSnapshot 0 = 0; takeSnapshot 0 ! State",
            "takeSnapshot 0; write 0 1; takeSnapshot 0 ! State; getFrom 0 0 ! Element; rollBack 0; takeSnapshot 0 ! State");
    }

    private static void dropSnapshot(Edges e) {
        e.under("Promise 11: dropSnapshot");
        e.plain("Drops a snapshot.");
        e.edge("`snapshot`: 0 to 3", "takeSnapshot {0..3}; dropSnapshot {0 3} = 0; changedSince {1 2} = 0; "
                + "changedSince {0 3} ! State; dropSnapshot {-1 4} ! Index");
        e.edge("Returns the number of blocks that begin to wait.",
            "takeSnapshot 0; dropSnapshot 0 = 0",
            "write {0 1} 1; takeSnapshot 0; dropSnapshot 0 = 0; blocks {1 3} = {2 0}",
            "write {0 1 2} 1; takeSnapshot {0 1}; delete {0 1}; dropSnapshot 0 = 0; blocks {1 2 3} = {1 2 0}; "
                + "dropSnapshot 1 = 2; blocks {1 2 3} = {1 0 2}",
            "reset 3 12 5; write {0..23} 1; takeSnapshot 0; delete {0..23}; advance; dropSnapshot 0 = 24; blocks 3 = 24; "
                + "block {0 27} 4 = 1");
        e.edge("Throws `IndexOutOfBoundsException` if the snapshot does not exist",
            "dropSnapshot {-1 4} ! Index; takeSnapshot {0..3}; dropSnapshot {-1 -4 4 8 min max} ! Index");
        e.edge("Throws `IllegalStateException` if it is not taken",
            "dropSnapshot {0..3} ! State; takeSnapshot 1; dropSnapshot {0 2 3} ! State; dropSnapshot 1 = 0; "
                + "dropSnapshot 1 ! State");
    }

    private static void rollBack(Edges e) {
        e.under("Promise 12: rollBack");
        e.plain("Makes the blocks of a snapshot the live ones.");
        e.edge("For each key whose live block is not the snapshot's block of this key: the live block, if there is one, "
                + "becomes kept or begins to wait as if the key was deleted, and the snapshot's block, if there is one, "
                + "becomes live.",
            "reset 6 4 5; write {0..3} 1; takeSnapshot 0; write 0 2; write 1 2; write 4 2; write 5 2; takeSnapshot 1; "
                + "write 1 3; write 5 3; delete 2; advance; rollBack 0 = 5; block {0..3} 0 = 1; block {0..3} 4 = -1; "
                + "block {16..19} 0 = 2; block {32 33} 0 = 3; block {32 33} 4 = 1; addressOf {0..5} = {0 1 2 3 -1 -1}; "
                + "get {0..3} = 1; blocks {1 2 3} = {4 4 2}",
            "write 0 1; takeSnapshot 0; delete 0; rollBack 0 = 1; block 0 0 = 1; neededBy 0 = 0x10100",
            "takeSnapshot 0; write {0 23} 1; rollBack 0 = 2; block {0 1} 0 = 3; addressOf {0 23} = -1; count 6 = 2",
            "write 0 1; takeSnapshot {0 1}; write 0 2; rollBack 1 = 1; write 0 3; rollBack 0 = 1; get 0 = 1; block 2 0 = 3");
        e.edge("The snapshot stays taken.",
            "write 0 1; takeSnapshot 0; write 0 2; rollBack 0 = 1; takeSnapshot 0 ! State; getFrom 0 0 = 1; "
                + "changedSince 0 = 0; write 0 3; block 0 0 = 2; rollBack 0 = 1; get 0 = 1; dropSnapshot 0 = 0; block 0 0 = 1");
        e.edge("`snapshot`: 0 to 3", "takeSnapshot {0..3}; write 0 1; rollBack 3 = 1; rollBack {0..3} = 0; "
                + "rollBack {-1 4} ! Index");
        e.edge("Returns the number of these keys.",
            "takeSnapshot 0; rollBack 0 = 0",
            "write 0 1; takeSnapshot 0; write 1 1; delete 1; rollBack 0 = 0",
            "reset 6 12 5; write {0..23} 1; takeSnapshot 0; rollBack 0 = 0; write {0..11} 1; delete {12..23}; "
                + "rollBack 0 = 24; rollBack 0 = 0");
        e.edge("Throws `IndexOutOfBoundsException` if the snapshot does not exist",
            "rollBack {-1 4} ! Index; takeSnapshot {0..3}; rollBack {-1 -4 4 8 min max} ! Index");
        e.edge("Throws `IllegalStateException` if it is not taken",
            "write 0 1; rollBack {0..3} ! State; takeSnapshot 1; rollBack {0 2 3} ! State; dropSnapshot 1; rollBack 1 ! State");
    }

    private static void getFrom(Edges e) {
        e.under("Promise 13: getFrom");
        e.plain("Returns the value of a key in a snapshot.");
        e.edge("`snapshot`: 0 to 3",
            "write 0 10; takeSnapshot 0; write 0 11; takeSnapshot 1; write 0 12; takeSnapshot 2; write 0 13; takeSnapshot 3; "
                + "delete 0; getFrom {0..3} 0 = {10..13}; getFrom {-1 4} 0 ! Index");
        e.edge("`key`: 0 to 23",
            "reset 3 12 5; write {0..23} 7; takeSnapshot 0; getFrom 0 {0..23} = 7; getFrom 0 {-1 24} ! Index",
            "write 23 5; write 0 4; takeSnapshot {0 3}; getFrom {0 3} 23 = 5; getFrom 3 0 = 4");
        e.edge("Returns the value.", "write 0 min; write 1 max; write 2 -1; takeSnapshot 0; write {0 1} 3; "
                + "getFrom 0 {0 1 2} = {min max -1}; relocate 0; getFrom 0 {0 1 2} = {min max -1}");
        e.edge("Throws `IndexOutOfBoundsException` if the snapshot or the key does not exist",
            "getFrom {-1 4} {0 -1 24} ! Index; getFrom 0 {-1 24} ! Index; write {0 23} 1; takeSnapshot {0..3}; "
                + "getFrom {-1 -4 4 8 min max} 0 ! Index; getFrom {0 3} {-1 -24 24 32 min max} ! Index");
        e.edge("Throws `IllegalStateException` if the snapshot is not taken",
            "write 0 1; getFrom {0..3} {0 1} ! State; takeSnapshot 1; getFrom {0 2 3} {0 1} ! State; dropSnapshot 1; "
                + "getFrom 1 {0 1} ! State");
        e.edge("Throws `NoSuchElementException` if it has no block of this key",
            "takeSnapshot 0; getFrom 0 {0..23} ! Element; write 0 1; takeSnapshot 1; getFrom 0 0 ! Element; "
                + "getFrom 1 0 = 1; getFrom 1 {1 23} ! Element",
            "write 0 1; delete 0; takeSnapshot 0; getFrom 0 0 ! Element");
    }

    private static void changedSince(Edges e) {
        e.under("Promise 14: changedSince");
        e.edge("Counts the keys whose live block is not the block of a snapshot: keys that were written anew, deleted, or "
                + "written first since it was taken.",
            "write {0 1 2} 1; takeSnapshot 0; changedSince 0 = 0; write 0 1; changedSince 0 = 1; delete 1; "
                + "changedSince 0 = 2; write 3 1; changedSince 0 = 3; write 0 1; changedSince 0 = 3; delete 3; "
                + "changedSince 0 = 2",
            "write {0..3} 1; takeSnapshot 0; relocate 0 = 4; changedSince 0 = 0",
            "write 0 1; takeSnapshot 0; delete 0; changedSince 0 = 1; rollBack 0; changedSince 0 = 0");
        e.edge("`snapshot`: 0 to 3", "takeSnapshot 0; write 0 1; takeSnapshot {1 2}; write 1 1; takeSnapshot 3; "
                + "changedSince {0..3} = {2 1 1 0}; changedSince {-1 4} ! Index");
        e.edge("Returns the number of keys.",
            "takeSnapshot 0; changedSince 0 = 0", "reset 4 12 5; takeSnapshot 0; write {0..23} 1; changedSince 0 = 24; "
                + "takeSnapshot 1; delete {0..23}; changedSince {0 1} = {0 24}");
        e.edge("Throws `IndexOutOfBoundsException` if the snapshot does not exist",
            "changedSince {-1 4} ! Index; takeSnapshot {0..3}; changedSince {-1 -4 4 8 min max} ! Index");
        e.edge("Throws `IllegalStateException` if it is not taken",
            "changedSince {0..3} ! State; takeSnapshot 1; changedSince {0 2 3} ! State; dropSnapshot 1; changedSince 1 ! State");
    }

    private static void difference(Edges e) {
        e.under("Promise 15: difference");
        e.edge("Counts the keys of which two snapshots have different blocks, or only one of them has a block.",
            "write {0 1 2} 1; takeSnapshot 0; takeSnapshot 1; difference 0 1 = 0; write 0 1; takeSnapshot 2; "
                + "difference {0 1 2} 2 = {1 1 0}; delete 1; write 3 1; takeSnapshot 3; difference 0 3 = 3; "
                + "difference 3 0 = 3; difference 2 3 = 2; difference 3 3 = 0",
            "write {0..3} 1; takeSnapshot {0 1}; relocate 0 = 4; takeSnapshot 2; difference 0 {1 2} = 0");
        e.edge("`snapshot`: 0 to 3", "takeSnapshot {0 1 2}; write 0 1; takeSnapshot 3; difference {0..3} 0 = {0 0 0 1}; "
                + "difference {-1 4} 0 ! Index");
        e.edge("`other`: 0 to 3", "takeSnapshot {0 1 2}; write 0 1; takeSnapshot 3; difference 0 {0..3} = {0 0 0 1}; "
                + "difference 0 {-1 4} ! Index");
        e.edge("Returns the number of keys.",
            "takeSnapshot {0 1}; difference 0 1 = 0",
            "reset 6 12 5; takeSnapshot 0; write {0..23} 1; takeSnapshot 1; write {0..23} 1; takeSnapshot 2; "
                + "difference {0 1 2} 1 = {24 0 24}; difference 0 2 = 24");
        e.edge("Throws `IndexOutOfBoundsException` if a snapshot does not exist",
            "difference {-1 4} 0 ! Index; difference 0 {-1 4} ! Index; difference {-1 4} {-1 4} ! Index; takeSnapshot {0..3}; "
                + "difference {-1 -4 4 8 min max} 0 ! Index; difference 0 {-1 -4 4 8 min max} ! Index");
        e.edge("Throws `IllegalStateException` if one of them is not taken",
            "difference {0..3} {0..3} ! State; takeSnapshot 1; difference 1 1 = 0; difference 1 {0 2 3} ! State; "
                + "difference {0 2 3} 1 ! State; takeSnapshot 3; difference 1 3 = 0; dropSnapshot 1; "
                + "difference 1 3 ! State; difference 3 1 ! State");
    }

    private static void ownBlocks(Edges e) {
        e.under("Promise 16: ownBlocks");
        e.edge("Counts the blocks that would begin to wait if a snapshot were dropped.",
            "write {0 1 2} 1; takeSnapshot 0; ownBlocks 0 = 0; write 0 2; ownBlocks 0 = 1; takeSnapshot 1; delete 1; "
                + "ownBlocks {0 1} = {1 0}; write 0 3; ownBlocks {0 1} = {1 1}; blocks 3 = 0; dropSnapshot 1 = 1; "
                + "ownBlocks 0 = 2; dropSnapshot 0 = 2");
        e.edge("`snapshot`: 0 to 3", "write 0 1; takeSnapshot 0; write 0 1; takeSnapshot 3; write 0 1; ownBlocks {0 3} = 1; "
                + "ownBlocks {-1 4} ! Index");
        e.edge("Returns the number of blocks.",
            "takeSnapshot 0; ownBlocks 0 = 0",
            "reset 3 12 5; write {0..23} 1; takeSnapshot 2; ownBlocks 2 = 0; delete {0..23}; ownBlocks 2 = 24; "
                + "dropSnapshot 2 = 24");
        e.edge("Throws `IndexOutOfBoundsException` if the snapshot does not exist",
            "ownBlocks {-1 4} ! Index; takeSnapshot {0..3}; ownBlocks {-1 -4 4 8 min max} ! Index");
        e.edge("Throws `IllegalStateException` if it is not taken",
            "ownBlocks {0..3} ! State; takeSnapshot 1; ownBlocks {0 2 3} ! State; dropSnapshot 1; ownBlocks 1 ! State");
    }
}
