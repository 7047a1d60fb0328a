/** The boundary cases of promises 1 to 9: a new object, reset, and the keys. */
final class KeyEdges {
    private KeyEdges() {
    }

    static void tell(Edges e) {
        newObject(e);
        reset(e);
        write(e);
        delete(e);
        get(e);
        addressOf(e);
        room(e);
        versions(e);
        version(e);
    }

    private static void newObject(Edges e) {
        e.under("Promise 1: A new object");
        e.edge("Creates a volume with 4 segments of 4 blocks and the patience 5.",
            "count {0..9} = {4 4 5 0 0 0 0 0 -1 -1}; segment {0..3} 0 = 0; segment 4 0 ! Index; block 51 0 = 0; "
                + "block 52 0 ! Index; room = 12; blocks {0..4} = {16 0 0 0 0}; undo ! State",
            "enter 0; advance; pass 4; expel 0 ! State; pass 1; expel 0 = 0");
    }

    private static void reset(Edges e) {
        e.under("Promise 2: reset");
        e.edge("Begins a new volume at tick 0: all segments are free and without erases, all readers are outside, no "
                + "snapshot is taken, epoch 0.",
            "reset 3 2 1; write 0 {1 2}; delete 0; takeSnapshot {0..3}; enter {0..5}; advance; pass 7; expel 5; "
                + "announce {0..4}; advance; reclaim = 2; write {0..3} 5; hold 0 {0..3}; relocate 1 = 2; wearGap = 1; "
                + "reset 3 2 1; count {0..9} = {3 2 1 0 0 0 0 0 -1 -1}; segment {0..2} {0..5} = 0; "
                + "block {0 1 16 17 32 33} 0 = 0; block {0 1 16 17 32 33} {1..4} = -1; neededBy {0 1 16 17 32 33} = 0; "
                + "reader {0..5} {0 2 3 4} = 0; reader {0..5} 1 = -1; changedSince {0..3} ! State; addressOf {0..23} = -1; "
                + "wearGap = 0; amplification {0 1} ! Element; room = 4; write 0 1 = 0; neededBy 0 = 0x10000",
            "reset 10 12 1; write {0..23} 1; reset 3 2 5; blocks {0..4} = {6 0 0 0 0}; block {2 18 34 48} 0 ! Index; "
                + "reset 10 12 5; blocks {0..4} = {120 0 0 0 0}; versions {0..23} = 0");
        e.edge("`segments`: number of segments, 3 to 10",
            "reset 3 4 5; count 0 = 3; segment 2 0 = 0; segment 3 0 ! Index; room = 8",
            "reset 10 4 5; count 0 = 10; segment 9 0 = 0; segment 10 0 ! Index; room = 36",
            "reset {2 11} 4 5 ! Argument; count 0 = 4");
        e.edge("`blocks`: number of blocks of each segment, 2 to 12",
            "reset 4 2 5; count 1 = 2; block 49 0 = 0; block 50 0 ! Index; room = 6",
            "reset 4 12 5; count 1 = 12; block 59 0 = 0; block 60 0 ! Index; room = 36",
            "reset 4 {1 13} 5 ! Argument; count 1 = 4");
        e.edge("`patience`: 1 to 100",
            "reset 4 4 1; count 2 = 1; enter 0; advance; expel 0 ! State; pass 1; expel 0 = 0",
            "reset 4 4 100; count 2 = 100; enter 0; advance; pass 99; expel 0 ! State; pass 1; expel 0 = 0",
            "reset 4 4 {0 101} ! Argument; count 2 = 5");
        e.edge("Throws `IllegalArgumentException` if an argument is out of range",
            "write 0 1; pass 1; reset {-1 0 1 2 11 12 16 min max} 4 5 ! Argument; "
                + "reset 4 {-1 0 1 13 14 16 min max} 5 ! Argument; reset 4 4 {-1 0 101 102 min max} ! Argument; "
                + "reset {2 11} {1 13} {0 101} ! Argument; undo = 1; get 0 = 1");
    }

    private static void write(Edges e) {
        e.under("Promise 3: write");
        e.plain("Writes a new version of a key.");
        e.edge("`key`: 0 to 23",
            "reset 3 12 5; write {0..23} 7 = {0..11 16..27}; block {0 27} 1 = {0 23}; get {0..23} = 7",
            "write 23 1 = 0; write 0 1 = 1; write {-1 24} 1 ! Index");
        e.edge("`value`: the value",
            "write 0 min; get 0 = min; write 0 -1; get 0 = -1; write 0 0; get 0 = 0; write 0 max; get 0 = max");
        e.edge("Returns the address of the new block.",
            "reset 3 3 5; write 0 {1..6} = {0 1 2 16 17 18}; addressOf 0 = 18",
            "reset 10 12 5; write 0 {1..107}; write 0 1 = 139");
        e.edge("Throws `IndexOutOfBoundsException` if the key does not exist",
            "write {-1 -24 24 25 32 min max} 0 ! Index; count 6 = 0; room = 12",
            "reset 3 2 5; write {0..3} 0; room = 0; write {-1 24 min max} 0 ! Index");
        e.edge("Throws `IllegalStateException` if there is no place for a user write",
            "reset 3 2 5; write {0..3} 1; write {0 4 23} 1 ! State; count 6 = 4; get {0..3} = 1",
            "reset 3 2 5; write {0 1 2} 1; relocate 0 = 2; write 2 1 = 17; write 2 1 ! State; segment {0 1 2} 0 = 2",
            "reset 3 2 5; write 0 {1..4}; write 0 5 ! State; 2 x advance; write 0 5 ! State; reclaim = 3; write 0 5 = 32",
            "reset 10 12 5; write 0 {1..108}; write 0 1 ! State");
    }

    private static void delete(Edges e) {
        e.under("Promise 4: delete");
        e.plain("Deletes a key.");
        e.edge("`key`: 0 to 23", "write {0 23} 1; delete 23 = 1; delete 0 = 0; delete {-1 24} ! Index");
        e.edge("Returns the address of the block that was live.",
            "write 5 {1 2}; delete 5 = 1; block {0 1} 0 = 3", "reset 4 2 5; write {0..5} 1; delete {0..5} = {0 1 16 17 32 33}");
        e.edge("Throws `IndexOutOfBoundsException` if the key does not exist",
            "write {0 8} 1; delete {-1 -8 24 32 min max} ! Index");
        e.edge("Throws `NoSuchElementException` if it has no live block",
            "delete {0 23} ! Element; write 0 1; delete 0; delete 0 ! Element; delete 23 ! Element",
            "write 0 1; takeSnapshot 0; delete 0; block 0 0 = 2; delete 0 ! Element; block 0 0 = 2");
    }

    private static void get(Edges e) {
        e.under("Promise 5: get");
        e.edge("Returns the value of a key's present version.",
            "write 0 min; write 0 max; get 0 = max; takeSnapshot 0; write 0 5; get 0 = 5; rollBack 0; get 0 = max");
        e.edge("`key`: 0 to 23", "write {0 23} 7; get {0 23} = 7; get {-1 24} ! Index");
        e.edge("Returns the value.", "write 3 -1; get 3 = -1; write {0..2} 0; relocate 0 = 4; get 3 = -1");
        e.edge("Throws `IndexOutOfBoundsException` if the key does not exist",
            "get {-1 24} ! Index; write {0 8} 1; get {-1 -8 24 32 min max} ! Index");
        e.edge("Throws `NoSuchElementException` if it has no live block",
            "get {0..23} ! Element; write 0 1; takeSnapshot 0; delete 0; get 0 ! Element; rollBack 0; get 0 = 1");
    }

    private static void addressOf(Edges e) {
        e.under("Promise 6: addressOf");
        e.plain("Returns the address of a key's live block.");
        e.edge("`key`: 0 to 23", "write {0 23} 7; addressOf {0 23} = {0 1}; addressOf {-1 24} ! Index");
        e.edge("Returns the address; NONE if there is none.",
            "addressOf {0..23} = -1; write {0 1} 1; addressOf {0 1 2} = {0 1 -1}; takeSnapshot 0; delete 0; "
                + "addressOf 0 = -1; write {2 3} 1; relocate 0 = 4; addressOf {0 1 2 3} = {-1 17 18 19}");
        e.edge("Throws `IndexOutOfBoundsException` if the key does not exist",
            "addressOf {-1 24} ! Index; write {0 8} 1; addressOf {-1 -8 24 32 min max} ! Index");
    }

    private static void room(Edges e) {
        e.under("Promise 7: room");
        e.edge("Counts the user writes that would find a place one behind the other now, if nothing else happened.",
            "room = 12; write 0 {1..12}; room = 0; write 0 1 ! State",
            "reset 3 2 5; room = 4; write 0 {1..4}; room = 0; write 0 1 ! State",
            "reset 10 12 5; room = 108; write 0 {1..108}; room = 0; write 0 1 ! State",
            "reset 3 4 5; write {0..4} 1; relocate 0 = 4; segment {0 1 2} 0 = {2 1 2}; room = 3; write 0 {1..3}; room = 0; "
                + "write 0 1 ! State",
            "reset 3 2 5; write {0..3} 1; relocate 0 = 2; segment {0 1 2} 0 = 2; room = 0; write 0 1 ! State",
            "write {0..3} 1; delete 0; relocate 0 = 3; count {8 9} = {-1 1}; room = 4; write 0 {1..4}; room = 0; "
                + "write 0 1 ! State",
            "reset 3 2 5; write 0 {1..4}; 2 x advance; room = 0; reclaim = 3; room = 2; write 0 {5 6}; room = 0");
        e.edge("Returns the number of writes.",
            "reset 4 3 5; room = 9; write 0 1; room = 8; write 0 {1..7}; room = 1; write 0 1; room = 0; count 6 = 9");
    }

    private static void versions(Edges e) {
        e.under("Promise 8: versions");
        e.edge("Counts the blocks of a key that are live, kept or waiting.",
            "versions 3 = 0; write 3 1; versions 3 = 1; takeSnapshot 0; write 3 2; versions 3 = 2; write 3 3; "
                + "block {0 1 2} 0 = {2 3 1}; versions 3 = 3; 2 x advance; reclaim = 1; versions 3 = 2; delete 3; "
                + "versions 3 = 2; dropSnapshot 0; versions 3 = 2; 2 x advance; reclaim = 2; versions 3 = 0");
        e.edge("`key`: 0 to 23", "write {0 23} 7; versions {0..23} = {1 0 0 0 0 0 0 0 0 0 0 0 0 0 0 0 0 0 0 0 0 0 0 1}; "
                + "versions {-1 24} ! Index");
        e.edge("Returns the number of blocks.", "versions 0 = 0; reset 10 12 5; write 0 {1..108}; versions 0 = 108; "
                + "relocate 8; versions 0 = 109");
        e.edge("Throws `IndexOutOfBoundsException` if the key does not exist",
            "versions {-1 24} ! Index; write {0 8} 1; versions {-1 -8 24 32 min max} ! Index");
    }

    private static void version(Edges e) {
        e.under("Promise 9: version");
        e.edge("Returns one of the blocks of a key that are live, kept or waiting, by ascending addresses.",
            "write 3 1; takeSnapshot 0; write 3 2; write 4 0; write 3 {3 4}; version 3 {0..3} = {0 1 3 16}; 2 x advance; "
                + "reclaim = 2; version 3 {0 1} = {0 16}; version 3 2 ! Index",
            "reset 3 2 5; write 0 {1 2}; write 1 {1 2}; delete 0; 2 x advance; reclaim = 3; write 1 {3 4} = {32 33}; "
                + "relocate 2 = 1; version 1 {0..3} = {0 17 32 33}; addressOf 1 = 0");
        e.edge("`key`: 0 to 23", "write {0 23} 7; version {0 23} 0 = {0 1}; version {-1 24} 0 ! Index");
        e.edge("`index`: 0 to versions(key) - 1",
            "write 0 1; version 0 0 = 0; version 0 {-1 1} ! Index; write 0 2; version 0 {0 1} = {0 1}; "
                + "version 0 {-1 2} ! Index",
            "version {0..23} 0 ! Index; reset 10 12 5; write 0 {1..108}; version 0 {0 107} = {0 139}; version 0 108 ! Index");
        e.edge("Returns the address of the block.", "write 1 1; write 0 1; version 0 0 = 1; block 1 1 = 0");
        e.edge("Throws `IndexOutOfBoundsException` if the key or the index does not exist",
            "write {0 8} 1; version {-1 -8 24 32 min max} {0 -1 1} ! Index; version 0 {-1 1 2 min max} ! Index; "
                + "version 1 {0 -1} ! Index",
            "write 0 1; delete 0; version 0 0 = 0; 2 x advance; reclaim = 1; version 0 0 ! Index");
    }
}
