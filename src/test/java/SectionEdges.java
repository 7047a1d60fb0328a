/** The boundary cases of the description, sections 1 to 6, and of the constants. */
final class SectionEdges {
    private SectionEdges() {
    }

    static void tell(Edges e) {
        segmentsAndBlocks(e);
        heads(e);
        states(e);
        epochs(e);
        readers(e);
        snapshots(e);
        reclaiming(e);
        relocation(e);
        changes(e);
        latestEight(e);
        exceptions(e);
        constants(e);
    }

    private static void segmentsAndBlocks(Edges e) {
        e.under("1. SEGMENTS AND BLOCKS");
        e.edge("A volume has 3 to 10 segments, numbered from 0, with 2 to 12 blocks each; at first there are 4 segments "
                + "with 4 blocks.",
            "count {0 1} = 4; segment {0..3} 0 = 0; segment {-1 4} 0 ! Index; block {0..3 48..51} 0 = 0; "
                + "block {-1 4 15 47 52 64} 0 ! Index",
            "reset 3 2 5; count {0 1} = {3 2}; segment {0..2} 0 = 0; segment {-1 3} 0 ! Index; "
                + "block {0 1 16 17 32 33} 0 = 0; block {-1 2 15 18 31 34 48 49} 0 ! Index",
            "reset 10 12 5; count {0 1} = {10 12}; segment {0..9} 0 = 0; segment {-1 10} 0 ! Index; "
                + "block {0..11 128..139 144..155} 0 = 0; block {-1 12..15 140..143 156..160} 0 ! Index",
            "reset {2 11} 4 5 ! Argument; reset 4 {1 13} 5 ! Argument");
        e.edge("Block b of segment s has the address 16 * s + b.",
            "reset 10 12 5; write 0 {0..107} = {0..11 16..27 32..43 48..59 64..75 80..91 96..107 112..123 128..139}; "
                + "relocate 8 = 1; addressOf 0 = 144; block 144 2 = 107; block 155 0 = 0",
            "reset 3 2 5; write 0 {0..3} = {0 1 16 17}; relocate 1 = 1; addressOf 0 = 32");
        e.edge("Time is counted in ticks from 0.",
            "count 4 = 0; write 0 1; block 0 3 = 0; pass 1 = 1; write 0 1; block 1 3 = 1",
            "pass 9; reset 4 4 5; count 4 = 0; pass 1 = 1");
        e.edge("A segment is free, open or full.",
            "reset 3 3 5; segment 0 0 = 0; write 0 1; segment 0 0 = 1; write 0 1; segment 0 0 = 1; write 0 1; "
                + "segment 0 0 = 2; segment 1 0 = 0; delete 0; 2 x advance; reclaim = 3; segment 0 0 = 0",
            "reset 3 2 5; write 0 1; segment 0 0 = 1; write 0 1; segment 0 0 = 2");
        e.edge("A user write needs a place: the first head is not none, or at least two segments are free.",
            "reset 3 2 5; write {0 1} 1; count 8 = -1; write 2 1 = 16",
            "reset 3 2 5; write {0 1 2} 1; count 8 = 1; write 3 1 = 17; count 8 = -1; write 3 2 ! State",
            "reset 3 2 5; write {0 1 2} 1; relocate 0 = 2; segment {0 1 2} 0 = {2 1 2}; write 3 1 = 17; "
                + "segment {0 1 2} 0 = 2; write 3 2 ! State",
            "reset 3 2 5; write {0..3} 1; delete 0; relocate 0 = 1; count {8 9} = {-1 2}; write 0 1 ! State");
        e.edge("(The last free segment is kept for relocation.)",
            "reset 3 2 5; write {0..3} 1; blocks 0 = 2; write 4 1 ! State; relocate 0 = 2; addressOf {0 1} = {32 33}",
            "reset 10 12 5; write 0 {1..108}; blocks 0 = 12; write 0 1 ! State; relocate 8 = 1; addressOf 0 = 144");
    }

    private static void heads(Edges e) {
        e.edge("There are two heads: user writes are appended to the first head, relocated blocks to the second one.",
            "write {0..4} 1; delete 0; relocate 0 = 3; addressOf {1 2 3} = {32 33 34}; count {8 9} = {1 2}; "
                + "write 5 1 = 17; write 6 1 = 18; count {8 9} = {1 2}; write 7 1 = 19; relocate 1 = 4; "
                + "addressOf {4..7} = {35 48 49 50}; count {8 9} = {-1 3}");
        e.edge("A head is an open segment, or none; at first both are none.",
            "count {8 9} = -1; write 0 1; count {8 9} = {0 -1}; write {1 2} 1; count 8 = 0; write 3 1; count 8 = -1; "
                + "delete 0; relocate 0 = 3; count {8 9} = {-1 1}; segment {0 1} 0 = {2 1}");
        e.edge("To append a block to a head: if the head is none, the free segment with the fewest erases, of several the "
                + "lowest one, becomes the head and open.",
            "reset 4 2 5; write 0 {1 2} = {0 1}; delete 0; 2 x advance; reclaim = 2; segment {0..3} 4 = {1 0 0 0}; "
                + "write 0 1 = 16; count 8 = 1; segment {0..3} 0 = {0 1 0 0}",
            "reset 4 2 5; write 0 {1 2}; delete 0; 2 x advance; reclaim = 2; write {0 1} 1 = {16 17}; delete 0; "
                + "relocate 1 = 1; addressOf 1 = 32; count 9 = 2; segment {0..3} 0 = {0 2 1 0}",
            "reset 3 2 5; write 0 {1 2} = {0 1}; delete 0; 2 x advance; reclaim = 2; write 0 {1 2} = {16 17}; delete 0; "
                + "2 x advance; reclaim = 2; write 0 {1 2} = {32 33}; delete 0; 2 x advance; reclaim = 2; "
                + "segment {0..2} 4 = 1; write 0 1 = 0");
        e.edge("The block gets the segment's lowest unused offset.",
            "write 0 {1..5} = {0 1 2 3 16}",
            "write 0 1 = 0; delete 0; 2 x advance; reclaim = 1; block 0 0 = 4; write 0 1 = 1",
            "write {0..3} 1; delete {0 2}; relocate 0 = 2; addressOf {1 3} = {16 17}");
        e.edge("If the segment has no unused block any more then, it is full, and the head is none.",
            "reset 4 2 5; write 0 1; segment 0 0 = 1; count 8 = 0; write 1 1; segment 0 0 = 2; count 8 = -1",
            "reset 4 2 5; write {0..3} 1; delete {0 2}; relocate 0 = 1; segment 2 0 = 1; count 9 = 2; relocate 1 = 1; "
                + "segment 2 0 = 2; count 9 = -1",
            "reset 3 12 5; write 0 {1..11}; segment 0 0 = 1; count 8 = 0; write 0 12; segment 0 0 = 2; count 8 = -1");
    }

    private static void states(Edges e) {
        e.edge("A block is unused, live, kept, waiting or dead.",
            "write {0 1} 1; delete 0; 2 x advance; reclaim = 1; takeSnapshot 0 = 1; delete 1; write {2 3} 1; delete 2; "
                + "block {0..3 16} 0 = {4 2 3 1 0}; blocks {0..4} = {12 1 1 1 1}; blocks {-1 5} ! Argument");
        e.edge("A block that is not unused has a key (0 to 23), a value (any int), and the tick at which it was appended.",
            "write 0 min = 0; write 23 max = 1; write 5 -1 = 2; write 5 0 = 3; block {0..3} 1 = {0 23 5 5}; "
                + "block {0..3} 2 = {min max -1 0}; get {0 23 5} = {min max 0}; block {0..3} 3 = 0",
            "pass 7; write 1 9 = 0; delete 1; block 0 {1 2 3} = {1 9 7}; pass 2; 2 x advance; reclaim = 1; "
                + "block 0 {0 1 2 3} = {4 1 9 7}");
        e.edge("There is at most one live block of each key; it is the present version of the key.",
            "write 3 {1 2 3}; blocks 1 = 1; block {0 1 2} 0 = {3 3 1}; addressOf 3 = 2; get 3 = 3",
            "write 3 1; takeSnapshot 0; write 3 2; rollBack 0 = 1; blocks 1 = 1; addressOf 3 = 0; get 3 = 1");
        e.edge("A kept block is not live, but belongs to a snapshot.",
            "write 0 1; takeSnapshot 2; block 0 0 = 1; neededBy 0 = 0x10400; delete 0; block 0 0 = 2; "
                + "neededBy 0 = 0x400; dropSnapshot 2 = 1; block 0 0 = 3; neededBy 0 = 0");
    }

    private static void epochs(Edges e) {
        e.under("2. EPOCHS AND READERS");
        e.edge("There is a present epoch, 0 at first, and the tick at which it began.",
            "count {3 5} = 0; pass 7; count {3 5} = 0; advance = 1; count {3 5} = {1 7}; reset 4 4 5; count {3 5} = 0");
        e.edge("The present epoch can advance by 1 if all readers that are inside have announced the present epoch.",
            "advance = 1; enter {0..5} = 1; advance = 2; blockers = 63; advance ! State; announce {0..4} = 0; "
                + "advance ! State; announce 5; advance = 3; announce {1..5}; advance ! State",
            "enter {0 1}; advance = 1; leave 0; advance ! State; pass 5; expel 1; advance = 2");
        e.edge("When a block is not needed any more by a key or a snapshot, it begins to wait, and gets the present epoch "
                + "as its waiting epoch.",
            "write {0 1} 1; takeSnapshot 0; advance; delete 0; block 0 {0 4} = {2 -1}; advance; dropSnapshot 0 = 1; "
                + "block 0 {0 4} = {3 2}; block 1 {0 4} = {1 -1}; advance; write 1 2; block 1 {0 4} = {3 3}",
            "write 0 1; delete 0; block 0 {0 4} = {3 0}");
        e.edge("A waiting block can be reclaimed if the present epoch is at least its waiting epoch + 2; then it is dead.",
            "write 0 1; delete 0; reclaim = 0; block 0 0 = 3; advance; reclaim = 0; block 0 0 = 3; advance; "
                + "reclaim = 1; block 0 {0 4} = {4 -1}",
            "write 0 1; 3 x advance; delete 0; advance; reclaim = 0; advance; block 0 4 = 3; reclaim = 1; block 0 0 = 4",
            "write 0 1; delete 0; 3 x advance; reclaim = 1; block 0 0 = 4");
    }

    private static void readers(Edges e) {
        e.edge("There are 6 readers, numbered from 0.",
            "reader {0..5} 0 = 0; enter {0..5} = 0; reader {0..5} 0 = 1; reader {-1 6} 0 ! Index; enter {-1 6} ! Index");
        e.edge("A reader is outside, inside or expelled.",
            "reset 4 4 1; reader 0 0 = 0; enter 0; reader 0 0 = 1; advance; pass 1; expel 0; reader 0 0 = 2; leave 0; "
                + "reader 0 0 = 0; enter 0; reader 0 0 = 1; leave 0; reader 0 0 = 0");
        e.edge("Whoever enters announces the present epoch.",
            "enter 0 = 0; reader 0 1 = 0; advance = 1; enter 1 = 1; reader {0 1} 1 = {0 1}; pass 5; expel 0; "
                + "advance = 2; enter 0 = 2; reader 0 1 = 2; leave 1; enter 1 = 2; blockers = 0");
        e.edge("A reader that is inside can hold live blocks; it holds them until it is not inside any more, announces "
                + "anew, or releases them.",
            "write 0 1; hold 0 0 ! State; enter 0; hold 0 0 = 0; leave 0 = 1; hold 0 0 ! State; read 0 0 ! Element; "
                + "enter 0; reader 0 2 = 0",
            "write {0 1} 1; enter 0; hold 0 {0 1}; announce 0 = 2; reader 0 {0 2} = {1 0}; read 0 {0 1} ! Element",
            "write 0 1; enter 0; hold 0 0; advance; pass 5; reader 0 2 = 1; expel 0 = 1; reader 0 2 = 0; "
                + "read 0 0 ! Element; hold 0 0 ! State",
            "write {0 1} 1; enter 0; hold 0 {0 1}; release 0 0 = 1; read 0 0 ! Element; read 0 1 = 1",
            "enter 0; hold 0 0 ! Element; write 0 1; delete 0; hold 0 0 ! Element",
            "write {0 1} 7; takeSnapshot 0; enter 0; hold 0 {0 1}; write 0 2; delete 1; reader 0 2 = 2; write 2 2; "
                + "relocate 0 = 4; rollBack 0 = 3; advance; pass 9; reader 0 2 = 2; read 0 {0 1} = 7");
        e.edge("(A reader may still hold it.)",
            "write 0 7; enter 0; hold 0 0; delete 0; block 0 0 = 3; read 0 0 = 7; reader 0 {2 4} = 1; neededBy 0 = 1");
        e.edge("A reader that is inside and has not announced the present epoch is stalled; its stall is the number of "
                + "ticks since the present epoch began.",
            "enter 0; pass 3; advance; blockers = 1; reader 0 3 = 0; pass 1; reader 0 3 = 1; pass 1000; "
                + "reader 0 3 = 1001; announce 0; blockers = 0; reader 0 3 = 0; pass 1; advance; reader 0 3 = 0");
        e.edge("The stall of others is 0.",
            "pass 4; reader 0 3 = 0; enter 0; pass 4; reader 0 3 = 0; advance; pass 5; enter 1; reader {0 1 2} 3 = {5 0 0}; "
                + "expel 0; reader 0 3 = 0; enter 0; pass 2; reader 0 3 = 0; leave 0; reader 0 3 = 0");
        e.edge("A reader whose stall is at least the patience can be expelled (1 to 100 ticks, at first 5): it holds "
                + "nothing any more, and does not count as inside.",
            "count 2 = 5; write 0 1; enter 0; hold 0 0; advance; pass 4; expel 0 ! State; pass 1; expel 0 = 1; "
                + "reader 0 {0 2} = {2 0}; neededBy 0 = 0x10000; blockers = 0; announce 0 ! State; hold 0 0 ! State; "
                + "expel 0 ! State; advance = 2",
            "reset 3 2 1; enter 5; advance; expel 5 ! State; pass 1; expel 5 = 0",
            "reset 3 2 100; enter 5; advance; pass 99; expel 5 ! State; pass 1; expel 5 = 0",
            "enter 5; advance; pass 1000; expel 5 = 0",
            "reset 3 2 {0 101} ! Argument");
    }

    private static void snapshots(Edges e) {
        e.under("3. SNAPSHOTS");
        e.edge("There are 4 snapshots, numbered from 0; each is taken or not.",
            "changedSince {0..3} ! State; takeSnapshot {0..3} = 0; changedSince {0..3} = 0; takeSnapshot {0..3} ! State; "
                + "dropSnapshot {0..3} = 0; changedSince {0..3} ! State; takeSnapshot {-1 4} ! Index");
        e.edge("A snapshot that is taken has the live block of each key at the time when it was taken; if one of these "
                + "blocks is relocated, it has the new block instead.",
            "write {0 1 2} 1; delete 1; takeSnapshot 0 = 2; write 1 5; getFrom 0 {0 2} = 1; getFrom 0 1 ! Element; "
                + "relocate 0 = 3; neededBy {16 17 18} = {0x10100 0x10100 0x10000}; neededBy {0..3} = 0; "
                + "changedSince 0 = 1; getFrom 0 {0 2} = 1",
            "reset 10 12 5; write {0..23} 7; takeSnapshot 3 = 24; delete {0..23}; getFrom 3 {0..23} = 7");
        e.edge("A block belongs to a snapshot if a taken snapshot has it.",
            "write 0 1; takeSnapshot 1; neededBy 0 = 0x10200; dropSnapshot 1 = 0; neededBy 0 = 0x10000; delete 0; "
                + "block 0 0 = 3",
            "write 0 1; takeSnapshot {0..3} = 1; neededBy 0 = 0x10f00; dropSnapshot {0 1 2} = 0; delete 0; block 0 0 = 2");
        e.edge("If a live block is replaced by a new version, or its key is deleted, it becomes kept if it belongs to a "
                + "snapshot; otherwise it begins to wait.",
            "write {0 1} 1; takeSnapshot 3; write {2 3} 1; write 0 2; delete 1; write 2 2; delete 3; "
                + "block {0..3} 0 = {2 2 3 3}; block {0..3} 4 = {-1 -1 0 0}");
        e.edge("If a snapshot is dropped, each of its blocks that is kept and does not belong to another snapshot begins "
                + "to wait.",
            "write {0..3} 1; takeSnapshot 0; delete 3; takeSnapshot 1; delete {0 1}; dropSnapshot 0 = 1; "
                + "block {0..3} 0 = {2 2 1 3}; dropSnapshot 1 = 2; block {0..3} 0 = {3 3 1 3}",
            "write 0 1; takeSnapshot {0 3}; delete 0; dropSnapshot 3 = 0; block 0 0 = 2; dropSnapshot 0 = 1; block 0 0 = 3");
    }

    private static void reclaiming(Edges e) {
        e.under("4. RECLAIMING AND RELOCATION");
        e.edge("To reclaim means: all waiting blocks that can be reclaimed become dead; then each full segment all of "
                + "whose blocks are dead is erased: all of its blocks are unused, it is free and has one erase more.",
            "write {0 1 2} 1; delete {0 1 2}; 2 x advance; reclaim = 3; segment 0 {0 3 4} = {1 3 0}; write 3 1 = 3; "
                + "reclaim = 0; segment 0 {0 3 4} = {2 3 0}; delete 3; 2 x advance; reclaim = 1; "
                + "segment 0 {0 1 2 3 4 5} = {0 0 0 0 1 0}; block {0..3} 0 = 0; block {0..3} {1..4} = -1",
            "reset 4 2 5; write {0..3} 1; delete {0 2 3}; 2 x advance; reclaim = 3; segment {0 1} 0 = {2 0}; "
                + "segment {0 1} 4 = {0 1}; segment 0 {1 3} = 1; block 0 {0..4} = {4 0 1 0 -1}; "
                + "block 16 {0..4} = {0 -1 -1 -1 -1}",
            "reset 4 2 5; write 0 1; takeSnapshot 0; write 1 1; delete {0 1}; 2 x advance; reclaim = 1; "
                + "segment 0 {0 1 3 4} = {2 1 1 0}; dropSnapshot 0; 2 x advance; reclaim = 1; segment 0 {0 4} = {0 1}",
            "reset 4 2 5; write {0 1} 1; delete 0; advance; delete 1; advance; reclaim = 1; "
                + "segment 0 {0 2 3 4} = {2 1 1 0}; advance; reclaim = 1; segment 0 {0 4} = {0 1}",
            "reset 10 12 5; write 0 {1..108}; delete 0; 2 x advance; reclaim = 108; segment {0..9} 0 = 0; "
                + "segment {0..9} 4 = {1 1 1 1 1 1 1 1 1 0}; blocks 0 = 120; reclaim = 0; segment {0..8} 4 = 1");
    }

    private static void relocation(Edges e) {
        e.edge("To relocate a full segment: for each of its live and kept blocks, by ascending offsets, a block with the "
                + "same key, value and tick is appended to the second head; it is live or kept as the old one was and "
                + "takes its place for the key and for all snapshots; the old block begins to wait.",
            "pass 2; write 0 10; write 1 11; takeSnapshot {0 2}; pass 3; write 2 12; write 3 13; delete {0 2}; pass 1; "
                + "advance; relocate 0 = 3; block {16 17 18} 0 = {2 1 1}; block {16 17 18} 1 = {0 1 3}; "
                + "block {16 17 18} 2 = {10 11 13}; block {16 17 18} 3 = {2 2 5}; block {16 17 18} 4 = -1; "
                + "neededBy {16 17 18} = {0x500 0x10500 0x10000}; addressOf {0 1 2 3} = {-1 17 -1 18}; "
                + "getFrom {0 2} 0 = 10; block {0..3} 0 = 3; block {0..3} 4 = {1 1 0 1}; block 19 0 = 0; count 9 = 1",
            "write {0..3} 1; delete 0; 2 x advance; reclaim = 1; relocate 0 = 3; addressOf {1 2 3} = {16 17 18}; "
                + "block 0 {0 4} = {4 -1}; segment 0 {0 1 2 3} = {2 0 3 1}",
            "write 3 0; write 2 0; write 1 0; write 0 0; relocate 0 = 4; addressOf {0..3} = {19 18 17 16}");
        e.edge("The blocks that the segment's relocation needs must find room in the second head and in free segments.",
            "reset 3 4 5; write {0..7} 1; delete {0 4 5 6}; relocate 0 = 3; count 9 = 2; relocate 1 = 1; "
                + "segment 2 0 = 2; relocate 2 ! State",
            "reset 3 4 5; write {0..7} 1; delete {0 4 5}; relocate 0 = 3; relocate 1 ! State; delete 6; relocate 1 = 1",
            "reset 4 3 5; write {0..5} 1; delete 0; relocate 0 = 2; count 9 = 2; relocate 1 = 3; "
                + "addressOf {3 4 5} = {34 48 49}; count 9 = 3",
            "reset 3 4 5; write {0..4} 1; relocate 0 = 4; count {8 9} = {1 -1}; relocate 2 ! State; relocate 0 = 0");
        e.edge("The use of a segment is the number of its live and kept blocks.",
            "segment 0 1 = 0; write 0 1; takeSnapshot 0; write {1 2 3} 1; segment 0 1 = 4; delete 0; segment 0 1 = 4; "
                + "delete 1; segment 0 1 = 3; delete {2 3}; segment 0 1 = 1; dropSnapshot 0; segment 0 1 = 0; "
                + "2 x advance; reclaim = 4; segment 0 1 = 0");
        e.edge("The age of a segment is the present tick minus the greatest tick of its blocks that are not unused.",
            "pass 5; segment 0 5 = 0; write 0 1; pass 2; segment 0 5 = 2; write 1 1; segment 0 5 = 0; pass 3; "
                + "segment 0 5 = 3; delete 1; segment 0 5 = 3; 2 x advance; reclaim = 1; segment 0 5 = 3; pass 1; "
                + "segment 0 5 = 4",
            "write 0 1; pass 9; segment {0 1} 5 = {9 0}",
            "reset 4 2 5; write {0 1} 1; pass 4; delete 0; relocate 0 = 1; pass 1; segment {0 1} 5 = 5");
    }

    private static void changes(Edges e) {
        e.under("5. CHANGES");
        e.edge("The changes are all calls of reset, write, delete, takeSnapshot, dropSnapshot, rollBack, enter, leave, "
                + "announce, hold, release, advance, pass, expel, reclaim and relocate that succeed.",
            "reset 3 2 1; undo = 0; count {0 1 2} = {4 4 5}; undo ! State",
            "write 0 1; undo = 0; addressOf 0 = -1; blocks 0 = 16; count {6 8} = {0 -1}; undo ! State",
            "write 0 1; delete 0; undo = 1; get 0 = 1; block 0 {0 4} = {1 -1}; undo = 0; undo ! State",
            "takeSnapshot 0; undo = 0; changedSince 0 ! State; undo ! State",
            "takeSnapshot 0; dropSnapshot 0; undo = 1; changedSince 0 = 0; undo = 0; undo ! State",
            "write {0 23} 1; takeSnapshot {0..3}; dropSnapshot {0..3}; undo = {7..4}; getFrom {0..3} {0 23} = 1; "
                + "undo = {3..0}; changedSince {0..3} ! State; neededBy {0 1} = 0x10000",
            "write 0 1; takeSnapshot 0; delete 0; rollBack 0 = 1; undo = 3; addressOf 0 = -1; block 0 0 = 2; undo = {2..0}",
            "takeSnapshot 0; rollBack 0 = 0; undo = {1 0}; undo ! State",
            "enter 0; undo = 0; reader 0 0 = 0; undo ! State",
            "enter 0; leave 0; undo = 1; reader 0 0 = 1; undo = 0; undo ! State",
            "enter 0; advance; announce 0; undo = 2; reader 0 1 = 0; announce 0; announce 0; undo = {3 2 1 0}",
            "write 0 1; enter 0; hold 0 0; undo = 2; reader 0 2 = 0; hold 0 0; hold 0 0; undo = 3; reader 0 2 = 1",
            "write 0 1; enter 0; hold 0 0; release 0 0; undo = 3; reader 0 2 = 1; undo = {2 1 0}",
            "pass 4; advance; undo = 1; count {3 4 5} = {0 4 0}; undo = 0; undo ! State",
            "pass 1; undo = 0; count 4 = 0; undo ! State",
            "write 0 1; enter 0; hold 0 0; advance; pass 5; expel 0; undo = 5; reader 0 {0 1 2} = {1 0 1}; undo = {4..0}",
            "reclaim = 0; undo = 0; undo ! State",
            "reset 3 2 5; write 0 1; write 0 2; delete 0; 2 x advance; reclaim = 2; undo = 6; blocks {0 3} = {4 2}; "
                + "segment 0 {0 4} = {2 0}; undo = {5..0}",
            "reset 3 2 5; write {0 1} 1; relocate 0 = 2; relocate 0 = 0; undo = 4; addressOf {0 1} = {16 17}; undo = 3; "
                + "addressOf {0 1} = {0 1}; count {7 9} = {0 -1}; undo = {2..0}; undo ! State",
            "write 0 1; write 1 1; undo = 1; undo = 0; undo ! State");
        e.edge("The changes are all calls of reset, write, delete, takeSnapshot, dropSnapshot, rollBack, enter, leave, "
                + "announce, hold, release, advance, pass, expel, reclaim and relocate that succeed.",
            "write {0..3} 1; takeSnapshot 0; enter 0; hold 0 0; get 0; addressOf 0; room; versions 0; version 0 0; "
                + "getFrom 0 0; changedSince 0; difference 0 0; ownBlocks 0; read 0 0; reader 0 {0..4}; blockers; "
                + "reclaimableWithout {-1 0}; costliestReader; count {0..9}; blocks {0..4}; segment 0 {0..5}; "
                + "meanAge 0 {0 1}; block 0 {0..4}; neededBy 0; waiting {0..2}; wouldErase; relocationsFor 0 8; "
                + "regainable; regainableNow; amplification {0 1}; wearGap; undo = 6; reader 0 2 = 0",
            "write {0..4} 1; delete 0; victim {0..2} = 0; relocationsFor {0..2} 4 = 0; relocationsFor 0 12 ! Element; "
                + "delete {1 2 3}; advancesToErase 0 = 2; undo = 7; addressOf 3 = 3");
    }

    private static void latestEight(Edges e) {
        e.edge("The latest 8 changes can be undone.",
            "7 x pass 1; undo = {6..0}; undo ! State; count 4 = 0",
            "8 x pass 1; undo = {7..0}; undo ! State; count 4 = 0",
            "9 x pass 1; undo = {7..0}; undo ! State; count 4 = 1",
            "25 x pass 1; undo = {7..0}; undo ! State; count 4 = 17",
            "10 x pass 1; undo = {7 6 5}; pass 100 = 107; undo = {5..0}; undo ! State; count 4 = 2",
            "8 x pass 1; undo = {7..4}; 5 x pass 10; undo = {7..0}; undo ! State; count 4 = 1",
            "8 x pass 1; undo = {7..0}; 3 x pass 10; undo = {2..0}; undo ! State; count 4 = 0",
            "write {0..11} 7; undo = {7..0}; undo ! State; get {0..3} = 7; addressOf {4..11} = -1");
    }

    private static void exceptions(Edges e) {
        e.under("6. EXCEPTIONS");
        e.edge("A method that throws an exception changes nothing.", SectionEdges::refusalsChangeNothing);
        e.edge("If several exceptions apply, the one named first is thrown.",
            "reset 3 2 5; write {0..3} 1; write {-1 24} 1 ! Index",
            "getFrom {-1 4} 24 ! Index; getFrom 0 {-1 24} ! Index; getFrom 0 0 ! State; takeSnapshot 0; getFrom 0 0 ! Element",
            "difference 0 {-1 4} ! Index; difference {-1 4} 0 ! Index; difference 0 0 ! State",
            "hold {-1 6} 24 ! Index; hold 0 {-1 24} ! Index; hold 0 0 ! State; enter 0; hold 0 0 ! Element",
            "release {-1 6} 0 ! Index; release 0 {-1 4} ! Index; release 0 0 ! Element",
            "read {-1 6} 0 ! Index; read 0 {-1 4} ! Index; read 0 0 ! Element",
            "reader {-1 6} {-1 5} ! Index; reader 0 {-1 5} ! Argument",
            "segment {-1 4} {-1 6} ! Index; segment 0 {-1 6} ! Argument",
            "block {-1 4 64} {-1 5} ! Index; block 0 {-1 5} ! Argument",
            "victim {-1 3} ! Argument; victim 0 ! Element",
            "relocationsFor 3 120 ! Argument; relocationsFor 0 121 ! Argument; relocationsFor 0 120 ! Element",
            "meanAge {-1 4} 0 ! Index; meanAge 0 0 ! Element; advancesToErase {-1 4} ! Index; advancesToErase 0 ! Element");
        // More calls than an object need stand, so that the end of time is seen all the same.
        e.edge("If several exceptions apply, the one named first is thrown.",
            "1000 x pass 1000; count 4 = 1000000; pass {0 -1 1001 max} ! Argument; pass {1 1000} ! State");
        e.edge("An IndexOutOfBoundsException is thrown if a key, reader, snapshot, segment, block or other index does not "
                + "exist.",
            "takeSnapshot 0; enter 0; write {-1 24 min max} 0 ! Index; delete {-1 24 min max} ! Index; "
                + "get {-1 24 min max} ! Index; addressOf {-1 24 min max} ! Index; versions {-1 24 min max} ! Index; "
                + "version {-1 24 min max} 0 ! Index; getFrom 0 {-1 24 min max} ! Index; hold 0 {-1 24 min max} ! Index",
            "enter {-1 6 min max} ! Index; leave {-1 6 min max} ! Index; announce {-1 6 min max} ! Index; write 0 1; "
                + "hold {-1 6 min max} 0 ! Index; release {-1 6 min max} 0 ! Index; read {-1 6 min max} 0 ! Index; "
                + "reader {-1 6 min max} 0 ! Index; expel {-1 6 min max} ! Index; "
                + "reclaimableWithout {-2 6 min max} ! Index",
            "takeSnapshot 0; takeSnapshot {-1 4 min max} ! Index; dropSnapshot {-1 4 min max} ! Index; "
                + "rollBack {-1 4 min max} ! Index; getFrom {-1 4 min max} 0 ! Index; "
                + "changedSince {-1 4 min max} ! Index; difference 0 {-1 4 min max} ! Index; "
                + "difference {-1 4 min max} 0 ! Index; ownBlocks {-1 4 min max} ! Index",
            "segment {-1 4 min max} 0 ! Index; meanAge {-1 4 min max} 0 ! Index; advancesToErase {-1 4 min max} ! Index; "
                + "relocate {-1 4 min max} ! Index",
            "enter 0; block {-1 4 15 52 64 min max} 0 ! Index; neededBy {-1 4 15 52 64 min max} ! Index; "
                + "release 0 {-1 4 15 52 64 min max} ! Index; read 0 {-1 4 15 52 64 min max} ! Index",
            "write 0 1; version 0 {-1 1 min max} ! Index; version 1 0 ! Index");
    }

    private static void refusalsChangeNothing(Check check) {
        refused(check, "count 0 = 4", "undo ! State; amplification {0 1} ! Element; victim {0 1 2} ! Element");
        refused(check, "reset 3 2 5; write {0..3} 1; relocate 0 = 2",
            "relocate {1 2} ! State; write 4 1 ! State; relocationsFor {0 1 2} 1 ! Element");
        refused(check, "1000 x pass 1000", "pass {1 1000} ! State");
        String before = "reset 3 2 4; write {0 1} 7; takeSnapshot 1; enter {0 1}; hold 0 {0 1}; write 0 8; write 2 9; "
                + "delete 1; advance; announce 1; pass 3";
        String refused = "reset 2 2 4 ! Argument; write 24 0 ! Index; write 3 0 ! State; delete 24 ! Index; "
                + "delete 1 ! Element; get 24 ! Index; get 1 ! Element; addressOf 24 ! Index; versions 24 ! Index; "
                + "version 0 9 ! Index; takeSnapshot 4 ! Index; takeSnapshot 1 ! State; dropSnapshot 4 ! Index; "
                + "dropSnapshot 0 ! State; rollBack 4 ! Index; rollBack 0 ! State; getFrom 1 24 ! Index; "
                + "getFrom 0 0 ! State; getFrom 1 2 ! Element; changedSince 4 ! Index; changedSince 0 ! State; "
                + "difference 1 4 ! Index; difference 1 0 ! State; ownBlocks 4 ! Index; ownBlocks 0 ! State; "
                + "enter 6 ! Index; enter 0 ! State; leave 6 ! Index; leave 2 ! State; announce 6 ! Index; "
                + "announce 2 ! State; hold 0 24 ! Index; hold 2 0 ! State; hold 0 1 ! Element; release 0 2 ! Index; "
                + "release 0 16 ! Element; read 0 2 ! Index; read 0 16 ! Element; reader 6 0 ! Index; "
                + "reader 0 5 ! Argument; expel 6 ! Index; expel {0 1 2} ! State; reclaimableWithout 6 ! Index; "
                + "advance ! State; pass 0 ! Argument; count 10 ! Argument; blocks 5 ! Argument; segment 3 0 ! Index; "
                + "segment 0 6 ! Argument; meanAge 3 0 ! Index; meanAge 2 0 ! Element; block 2 0 ! Index; "
                + "block 0 5 ! Argument; neededBy 2 ! Index; waiting 3 ! Argument; advancesToErase 3 ! Index; "
                + "advancesToErase 0 ! Element; relocate 3 ! Index; relocate 2 ! State; victim 3 ! Argument; "
                + "relocationsFor 3 1 ! Argument; relocationsFor 0 5 ! Element";
        refused(check, before, refused);
    }

    /** What can be undone must stay, too: that is seen by undoing all on a volume that was asked and one that was not. */
    private static void refused(Check check, String before, String refused) {
        Script asked = Script.run(check, before + "; " + refused);
        Script other = Script.run(check, before);
        Call undo = new Call("undo");
        for (int i = 0; i < 9; i++) {
            check.holds(asked.seen().equals(other.seen()), "something differs behind " + i + " undone changes");
            check.holds(asked.answer(undo).equals(other.answer(undo)), "undo differs at " + i);
        }
    }

    private static void constants(Edges e) {
        e.under("The constants:");
        e.edge("`NONE = -1`: The value -1: there is none.",
            check -> check.due(-1, "NONE", () -> AppendedVolume.NONE));
        e.plain("The constructor and the methods follow, a promise each: the signature, then what it does.");
    }
}
