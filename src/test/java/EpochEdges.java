/** The boundary cases of promises 28 to 36: epochs and time, segments and blocks. */
final class EpochEdges {
    private EpochEdges() {
    }

    static void tell(Edges e) {
        advance(e);
        pass(e);
        count(e);
        blocks(e);
        segment(e);
        meanAge(e);
        block(e);
        neededBy(e);
        waiting(e);
    }

    private static void advance(Edges e) {
        e.under("Promise 28: advance");
        e.edge("Lets the present epoch advance; the new one begins at the present tick.",
            "advance = 1; count {3 4 5} = {1 0 0}; pass 3; advance = 2; count {3 4 5} = {2 3 3}; pass 1; count 5 = 3; "
                + "reader 0 3 = 0");
        e.edge("Returns the new epoch.", "advance = {1..30}; count 3 = 30; undo = 7; count 3 = 29; advance = 30");
        e.edge("Throws `IllegalStateException` if it cannot advance",
            "enter 0; advance = 1; advance ! State; pass 1000; advance ! State; count {3 5} = {1 0}; announce 0; advance = 2",
            "enter 5; advance; enter {0..4}; advance ! State; leave 5; advance = 2; advance ! State; leave {0..3}; "
                + "advance ! State; announce 4; advance = 3");
    }

    private static void pass(Edges e) {
        e.under("Promise 29: pass");
        e.plain("Lets ticks pass.");
        e.edge("`ticks`: 1 to 1000", "pass 1 = 1; pass 1000 = 1001; pass {0 1001} ! Argument");
        e.edge("Returns the present tick.", "pass 3 = 3; pass 1 = 4; count 4 = 4; undo; pass 1000 = 1003; count 4 = 1003");
        e.edge("Throws `IllegalArgumentException` if ticks is out of range",
            "pass {0 -1 1001 -1000 min max} ! Argument; count 4 = 0; pass 7; pass {0 -1 -7 1001 min max} ! Argument; "
                + "count 4 = 7; undo = 0");
        // More calls than an object need stand, so that the end of time is seen all the same.
        e.edge("Throws `IllegalStateException` if the tick would be greater than 1,000,000",
            "999 x pass 1000; pass 999 = 999999; pass {2 1000} ! State; pass 1 = 1000000; pass {1 1000} ! State; "
                + "count 4 = 1000000",
            "999 x pass 1000; pass 1000 = 1000000; pass 1 ! State; undo = 7; pass 1000 = 1000000");
    }

    private static void count(Edges e) {
        e.under("Promise 30: count");
        e.plain("Returns a number of the volume.", "Returns the requested number.");
        e.edge("`what`: 0: segments; 1: blocks of a segment; 2: patience; 3: present epoch; 4: present tick; 5: tick at "
                + "which the present epoch began; 6: blocks appended by user writes so far; 7: blocks appended by "
                + "relocation so far; 8: the first head, NONE without; 9: the second head, NONE without",
            "count {0..9} = {4 4 5 0 0 0 0 0 -1 -1}",
            "reset 5 3 7; write {0 1 2 0} 1; pass 9; advance; pass 2; relocate 0 = 2; count {0..9} = {5 3 7 1 11 9 4 2 1 2}; "
                + "write {5 6} 1; count {6 8} = {6 -1}; relocate 1 = 3; count {7 9} = {5 3}; delete 5; reclaim; "
                + "count {6 7} = {6 5}",
            "reset 3 2 5; write {0 1} 1; count 8 = -1; relocate 0 = 2; count 9 = -1");
        e.edge("Throws `IllegalArgumentException` for any other what", "count {-1 10 11 min max} ! Argument");
    }

    private static void blocks(Edges e) {
        e.under("Promise 31: blocks");
        e.plain("Counts blocks of the whole volume.");
        e.edge("`state`: 0: unused; 1: live; 2: kept; 3: waiting; 4: dead",
            "blocks {0..4} = {16 0 0 0 0}; write {0 1} 1; blocks {0..4} = {14 2 0 0 0}; takeSnapshot 0; delete 0; "
                + "blocks {0..4} = {14 1 1 0 0}; dropSnapshot 0; blocks {0..4} = {14 1 0 1 0}; 2 x advance; reclaim = 1; "
                + "blocks {0..4} = {14 1 0 0 1}; write {2 3} 1; delete {1 2 3}; 2 x advance; reclaim = 3; "
                + "blocks {0..4} = {16 0 0 0 0}");
        e.edge("Returns the number of blocks.",
            "reset 10 12 5; blocks {0..4} = {120 0 0 0 0}; write 0 {1..108}; blocks {0..4} = {12 1 0 107 0}; 2 x advance; "
                + "reclaim = 107; blocks {0..4} = {108 1 0 0 11}",
            "reset 3 2 5; blocks 0 = 6; write {0..3} 1; relocate 1 = 2; blocks {0..4} = {0 4 0 2 0}");
        e.edge("Throws `IllegalArgumentException` for any other state", "blocks {-1 5 6 min max} ! Argument");
    }

    private static void segment(Edges e) {
        e.under("Promise 32: segment");
        e.plain("Describes a segment.", "Returns the requested number.");
        e.edge("`segment`: number of a segment",
            "write 0 1; segment {0 3} 0 = {1 0}; segment {-1 4} 0 ! Index",
            "reset 10 2 5; segment 9 0 = 0; segment 10 0 ! Index", "reset 3 2 5; segment 2 0 = 0; segment 3 0 ! Index");
        e.edge("`what`: 0: 0 if it is free, 1 if it is open, 2 if it is full; 1: its use; 2: its waiting blocks; 3: its "
                + "dead blocks; 4: its erases; 5: its age, 0 if it is free",
            "pass 5; segment 0 {0..5} = 0; write {0 1} 1; segment 0 {0..5} = {1 2 0 0 0 0}; delete 0; 2 x advance; "
                + "reclaim = 1; pass 2; segment 0 {0..5} = {1 1 0 1 0 2}; takeSnapshot 0; write 1 2; write 2 2; "
                + "segment 0 {0..5} = {2 3 0 1 0 0}; pass 7; delete {1 2}; segment 0 {0..5} = {2 1 2 1 0 7}; "
                + "dropSnapshot 0; 2 x advance; reclaim = 3; segment 0 {0..5} = {0 0 0 0 1 0}; pass 3; segment 0 5 = 0");
        e.edge("Throws `IndexOutOfBoundsException` if the segment does not exist",
            "segment {-1 4 5 16 min max} {0 5 -1 6} ! Index; reset 3 2 5; segment {-1 3 4 min max} {0..5} ! Index");
        e.edge("Throws `IllegalArgumentException` for any other what", "segment {0 3} {-1 6 7 min max} ! Argument");
    }

    private static void meanAge(Edges e) {
        e.under("Promise 33: meanAge");
        e.edge("Returns the mean age of the live and kept blocks of a segment, the present tick minus the block's tick, as "
                + "a fraction in lowest terms.",
            "write {0 1} 1; pass 6; write {2 3} 1; meanAge 0 {0 1} = {3 1}; pass 1; meanAge 0 {0 1} = {4 1}; delete 0; "
                + "meanAge 0 {0 1} = {3 1}; takeSnapshot 0; delete 2; meanAge 0 {0 1} = {3 1}; write 3 2; "
                + "meanAge 0 {0 1} = {3 1}; dropSnapshot 0; meanAge 0 {0 1} = {7 1}",
            "write {0 1 2} 1; pass 4; write 3 1; pass 1; meanAge 0 {0 1} = {4 1}; delete 0; meanAge 0 {0 1} = {11 3}; "
                + "delete 1; meanAge 0 {0 1} = {3 1}; pass 3; delete 2; meanAge 0 {0 1} = {4 1}",
            "reset 3 12 5; write 0 1; 6 x pass 1000; write {1..11} 1; meanAge 0 {0 1} = {500 1}; pass 1; "
                + "meanAge 0 {0 1} = {501 1}; delete 11; meanAge 0 {0 1} = {6011 11}");
        e.edge("`segment`: number of a segment",
            "write {0..4} 1; pass 2; meanAge {0 1} 0 = 2; meanAge {2 3} 0 ! Element; meanAge {-1 4} 0 ! Index");
        e.edge("`denominator`: true for the denominator, false for the numerator",
            "write {0 1} 1; pass 3; write {2 3} 1; meanAge 0 {0 1} = {3 2}");
        e.edge("Returns the requested number (0 is 0 / 1).",
            "write {0 1 2} 1; meanAge 0 {0 1} = {0 1}; write 3 1; meanAge 0 {0 1} = {0 1}; pass 1; meanAge 0 {0 1} = {1 1}");
        e.edge("Throws `IndexOutOfBoundsException` if the segment does not exist",
            "meanAge {-1 4 5 16 min max} {0 1} ! Index; write 0 1; meanAge {-1 4 min max} {0 1} ! Index");
        e.edge("Throws `NoSuchElementException` if it has no live and no kept block",
            "meanAge {0..3} {0 1} ! Element; write 0 1; takeSnapshot 0; delete 0; meanAge 0 {0 1} = {0 1}; dropSnapshot 0; "
                + "meanAge 0 {0 1} ! Element; 2 x advance; reclaim = 1; meanAge 0 {0 1} ! Element",
            "write {0..3} 1; relocate 0 = 4; meanAge 0 {0 1} ! Element; meanAge 1 {0 1} = {0 1}");
    }

    private static void block(Edges e) {
        e.under("Promise 34: block");
        e.plain("Describes a block.");
        e.edge("`address`: address of a block",
            "block {0 51} 0 = 0; block {-1 4 15 52 63 64} 0 ! Index",
            "reset 3 2 5; block {0 33} 0 = 0; block {2 34 48} 0 ! Index",
            "reset 10 12 5; block {0 155} 0 = 0; block {12 156 159 160} 0 ! Index");
        e.edge("`what`: 0: its state as in blocks(); 1: its key; 2: its value; 3: its tick; 4: its waiting epoch, NONE if "
                + "it is not waiting",
            "pass 3; write 7 70; block 0 {0..4} = {1 7 70 3 -1}; takeSnapshot 0; delete 7; block 0 {0..4} = {2 7 70 3 -1}; "
                + "advance; dropSnapshot 0; block 0 {0..4} = {3 7 70 3 1}; 2 x advance; block 0 4 = 1; reclaim = 1; "
                + "block 0 {0..4} = {4 7 70 3 -1}",
            "write 0 1; takeSnapshot 0; delete 0; rollBack 0; block 0 {0..4} = {1 0 1 0 -1}; write 1 1; delete 1; "
                + "block 1 {0..4} = {3 1 1 0 0}");
        e.edge("Returns the requested number; for the key, the value and the tick of an unused block NONE.",
            "block {0 51} {0..4} = {0 -1 -1 -1 -1 0 -1 -1 -1 -1}; write {0..3} 7; block 16 {0..4} = {0 -1 -1 -1 -1}; "
                + "delete {0..3}; 2 x advance; reclaim = 4; block {0..3} 0 = 0; block {0..3} {1..4} = -1");
        e.edge("Throws `IndexOutOfBoundsException` if the block does not exist",
            "block {-1 -16 4 15 20 52 64 160 min max} {0 4 -1 5} ! Index; reset 3 2 5; block {2 3 18 34 48} {0 4 5} ! Index");
        e.edge("Throws `IllegalArgumentException` for any other what",
            "write 0 1; block {0 51} {-1 5 6 min max} ! Argument");
    }

    private static void neededBy(Edges e) {
        e.under("Promise 35: neededBy");
        e.plain("Tells who needs a block.");
        e.edge("`address`: address of a block",
            "neededBy {0 51} = 0; neededBy {-1 4 15 52 64} ! Index",
            "reset 10 12 5; neededBy {0 155} = 0; neededBy {12 156} ! Index");
        e.edge("Returns a bit mask: bit r for reader r that holds it, bit 8 + s for snapshot s that has it, bit 16 if it is "
                + "live.",
            "neededBy 0 = 0; write 0 1; neededBy 0 = 0x10000; enter {0..5}; hold 0 0; neededBy 0 = 0x10001; hold 5 0; "
                + "neededBy 0 = 0x10021; takeSnapshot 0; neededBy 0 = 0x10121; takeSnapshot 3; neededBy 0 = 0x10921; "
                + "takeSnapshot {1 2}; hold {1..4} 0; neededBy 0 = 0x10f3f; delete 0; neededBy 0 = 0xf3f; "
                + "dropSnapshot {0..3}; neededBy 0 = 0x3f; leave {0..5}; neededBy 0 = 0; 2 x advance; reclaim = 1; "
                + "neededBy 0 = 0",
            "write {0..3} 1; takeSnapshot 1; enter 2; hold 2 0; relocate 0 = 4; neededBy {0 16} = {4 0x10200}",
            "write {0..3} 1; takeSnapshot {0 3}; delete 0; neededBy 0 = 0x900; relocate 0 = 4; neededBy {0 16} = {0 0x900}");
        e.edge("Throws `IndexOutOfBoundsException` if the block does not exist",
            "neededBy {-1 -16 4 15 20 52 64 160 min max} ! Index; reset 3 2 5; neededBy {2 3 18 34 48} ! Index");
    }

    private static void waiting(Edges e) {
        e.under("Promise 36: waiting");
        e.edge("Counts waiting blocks by how many advances of the epoch are still missing until they can be reclaimed.",
            "write {0..5} 1; delete 0; waiting {0 1 2} = {0 0 1}; advance; delete {1 2}; waiting {0 1 2} = {0 1 2}; advance; "
                + "delete {3 4 5}; waiting {0 1 2} = {1 2 3}; advance; waiting {0 1 2} = {3 3 0}; 9 x advance; "
                + "waiting {0 1 2} = {6 0 0}; reclaim = 6; waiting {0 1 2} = 0",
            "write 0 1; delete 0; enter 0; advance; waiting {0 1 2} = {0 1 0}; advance ! State");
        e.edge("`advances`: 0 to 2", "write 0 1; delete 0; waiting {0 1 2} = {0 0 1}; waiting {-1 3} ! Argument");
        e.edge("Returns the number of blocks.", "waiting {0 1 2} = 0; reset 10 12 5; write 0 {1..108}; "
                + "waiting {0 1 2} = {0 0 107}; advance; waiting {0 1 2} = {0 107 0}; advance; waiting {0 1 2} = {107 0 0}");
        e.edge("Throws `IllegalArgumentException` if advances is out of range", "waiting {-1 -2 3 4 min max} ! Argument; "
                + "write 0 1; delete 0; waiting {-1 3} ! Argument");
    }
}
