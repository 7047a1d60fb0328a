/** The boundary cases of promises 17 to 27: the readers. */
final class ReaderEdges {
    private ReaderEdges() {
    }

    static void tell(Edges e) {
        enter(e);
        leave(e);
        announce(e);
        hold(e);
        release(e);
        read(e);
        reader(e);
        blockers(e);
        expel(e);
        reclaimableWithout(e);
        costliestReader(e);
    }

    private static void enter(Edges e) {
        e.under("Promise 17: enter");
        e.edge("Lets a reader enter that is outside or expelled.",
            "enter 0 = 0; reader 0 0 = 1; leave 0; enter 0 = 0; reader 0 0 = 1",
            "reset 3 2 1; enter 0; advance; pass 1; expel 0; reader 0 {0 1} = {2 -1}; enter 0 = 1; "
                + "reader 0 {0..4} = {1 1 0 0 0}; advance = 2");
        e.edge("`reader`: 0 to 5", "enter {0 5} = 0; reader {0..5} 0 = {1 0 0 0 0 1}; enter {-1 6} ! Index");
        e.edge("Returns the epoch that it announces.", "enter 0 = 0; advance; enter 1 = 1; announce 0; 1 x advance; "
                + "enter 2 = 2; reader {0 1 2} 1 = {1 1 2}", "40 x advance; enter 3 = 40");
        e.edge("Throws `IndexOutOfBoundsException` if the reader does not exist",
            "enter {-1 -6 6 7 32 min max} ! Index; enter {0..5}; enter {-1 6 32 min max} ! Index");
        e.edge("Throws `IllegalStateException` if it is inside",
            "enter {0..5}; enter {0..5} ! State; advance; enter {0..5} ! State; reader {0..5} 1 = 0; leave 3; enter 3 = 1; "
                + "enter 3 ! State");
    }

    private static void leave(Edges e) {
        e.under("Promise 18: leave");
        e.edge("Lets a reader leave that is inside or expelled; it is outside then.",
            "enter 0; leave 0 = 0; reader 0 {0 1} = {0 -1}",
            "reset 3 2 1; enter 0; advance; pass 1; expel 0; reader 0 0 = 2; leave 0 = 0; reader 0 {0 1} = {0 -1}; "
                + "leave 0 ! State");
        e.edge("`reader`: 0 to 5", "enter {0..5}; leave {0 5} = 0; reader {0..5} 0 = {0 1 1 1 1 0}; leave {-1 6} ! Index");
        e.edge("Returns the number of blocks that it held.",
            "write {0 1} 1; enter {0 1}; leave 0 = 0; enter 0; hold 0 {0 1 1}; hold 1 0; leave 0 = 2; reader 1 2 = 1; "
                + "enter 0; leave 0 = 0; leave 1 = 1",
            "reset 3 12 5; write {0..23} 1; enter 5; hold 5 {0..23}; leave 5 = 24; neededBy {0 27} = 0x10000",
            "reset 3 2 1; write 0 1; enter 0; hold 0 0; advance; pass 1; expel 0 = 1; leave 0 = 0");
        e.edge("Throws `IndexOutOfBoundsException` if the reader does not exist",
            "leave {-1 6} ! Index; enter {0..5}; leave {-1 -6 6 7 32 min max} ! Index");
        e.edge("Throws `IllegalStateException` if it is outside",
            "leave {0..5} ! State; enter {0..5}; leave 3; leave 3 ! State; leave {0 5} = 0; leave {0 5} ! State");
    }

    private static void announce(Edges e) {
        e.under("Promise 19: announce");
        e.edge("Lets a reader announce the present epoch anew; it holds nothing any more then.",
            "write {0 1} 1; enter {0 1}; hold 0 {0 1}; hold 1 0; advance; blockers = 3; announce 0 = 2; blockers = 2; "
                + "reader 0 {0..4} = {1 1 0 0 0}; reader 1 {1 2} = {0 1}; read 0 {0 1} ! Element; read 1 0 = 1",
            "write 0 1; enter 0; hold 0 0; announce 0 = 1; reader 0 {0 1 2} = {1 0 0}; hold 0 0 = 0");
        e.edge("`reader`: 0 to 5", "enter {0..5}; advance; announce {0 5} = 0; blockers = 0x1e; announce {-1 6} ! Index");
        e.edge("Returns the number of blocks that it held.",
            "enter 0; announce 0 = 0; write {0 1} 1; hold 0 0; hold 0 0; announce 0 = 1; announce 0 = 0",
            "reset 3 12 5; write {0..23} 1; enter 5; hold 5 {0..23}; delete {0..23}; announce 5 = 24; announce 5 = 0");
        e.edge("Throws `IndexOutOfBoundsException` if the reader does not exist",
            "announce {-1 6} ! Index; enter {0..5}; announce {-1 -6 6 7 32 min max} ! Index");
        e.edge("Throws `IllegalStateException` if it is not inside",
            "announce {0..5} ! State; enter 0; announce {1..5} ! State; leave 0; announce 0 ! State",
            "reset 3 2 1; enter 0; advance; pass 1; expel 0; announce 0 ! State; leave 0; announce 0 ! State");
    }

    private static void hold(Edges e) {
        e.under("Promise 20: hold");
        e.edge("Lets a reader hold the live block of a key (holding it twice is the same as once).",
            "write 0 1; enter 0; hold 0 0 = 0; hold 0 0 = 0; reader 0 2 = 1; neededBy 0 = 0x10001; release 0 0 = 0; "
                + "read 0 0 ! Element",
            "write 0 1; enter 0; hold 0 0 = 0; write 0 2; hold 0 0 = 1; reader 0 {2 4} = {2 1}; read 0 {0 1} = {1 2}");
        e.edge("`reader`: 0 to 5", "write 0 1; enter {0..5}; hold {0 5} 0 = 0; neededBy 0 = 0x10021; hold {-1 6} 0 ! Index");
        e.edge("`key`: 0 to 23", "write {23 0} 1; enter 0; hold 0 {0 23} = {1 0}; hold 0 {-1 24} ! Index");
        e.edge("Returns the address of the block.",
            "write {0..4} 1; enter 0; hold 0 {0..4} = {0..3 16}; relocate 0 = 4; hold 0 3 = 35; reader 0 2 = 6");
        e.edge("Throws `IndexOutOfBoundsException` if the reader or the key does not exist",
            "hold {-1 6} {0 -1 24} ! Index; hold 0 {-1 24} ! Index; write {0 8} 1; enter {0..5}; "
                + "hold {-1 -6 6 7 32 min max} 0 ! Index; hold {0 5} {-1 -8 24 32 min max} ! Index");
        e.edge("Throws `IllegalStateException` if the reader is not inside",
            "hold {0..5} {0 23} ! State; write 0 1; hold {0..5} {0 23} ! State; enter 0; leave 0; hold 0 0 ! State",
            "reset 3 2 1; write 0 1; enter 0; advance; pass 1; hold 0 0 = 0; expel 0 = 1; hold 0 {0 1} ! State");
        e.edge("Throws `NoSuchElementException` if the key has no live block",
            "enter 0; hold 0 {0..23} ! Element; write 0 1; takeSnapshot 0; delete 0; hold 0 0 ! Element; rollBack 0; "
                + "hold 0 0 = 0");
    }

    private static void release(Edges e) {
        e.under("Promise 21: release");
        e.edge("Lets a reader release a block that it holds.",
            "write {0 1} 1; enter {0 1}; hold {0 1} {0 1}; release 0 1 = 1; neededBy {0 1} = {0x10003 0x10002}; "
                + "read 0 1 ! Element; read 1 1 = 1",
            "write 0 1; enter 0; hold 0 0; delete 0; release 0 0 = 0; block 0 0 = 3");
        e.edge("`reader`: 0 to 5", "write 0 1; enter {0..5}; hold {0..5} 0; release {0 5} 0 = 0; neededBy 0 = 0x1001e; "
                + "release {-1 6} 0 ! Index");
        e.edge("`address`: address of a block",
            "reset 10 12 5; write 0 {1..107}; write 1 1 = 139; enter 0; hold 0 1; release 0 {-1 12 15 140 143 156 160} ! Index; "
                + "release 0 {144 155} ! Element; release 0 139 = 0",
            "reset 3 2 5; write 0 1; enter 0; hold 0 0; release 0 {-1 2 15 18 34 48} ! Index; release 0 {1 33} ! Element; "
                + "release 0 0 = 0");
        e.edge("Returns the number of blocks that it still holds.",
            "write {0 1 2} 1; enter {0 1}; hold 0 {0 1 2}; hold 1 {0 1}; release 0 {1 0 2} = {2 1 0}; reader 1 2 = 2");
        e.edge("Throws `IndexOutOfBoundsException` if the reader or the block does not exist",
            "release {-1 6} {0 -1 4} ! Index; write 0 1; enter {0..5}; hold {0..5} 0; "
                + "release {-1 -6 6 7 32 min max} 0 ! Index; release {0 5} {-1 -16 4 15 52 64 160 min max} ! Index");
        e.edge("Throws `NoSuchElementException` if it does not hold the block",
            "release {0..5} {0 51} ! Element; write {0 1} 1; enter 0; release 0 0 ! Element; hold 0 0; release 0 1 ! Element; "
                + "release 1 0 ! Element; release 0 0 = 0; release 0 0 ! Element",
            "write 0 1; enter 0; hold 0 0; leave 0; release 0 0 ! Element; enter 0; release 0 0 ! Element");
    }

    private static void read(Edges e) {
        e.under("Promise 22: read");
        e.edge("Reads a block that a reader holds.",
            "write 0 7; enter 0; hold 0 0; write 0 8; read 0 0 = 7; takeSnapshot 0; write {1 2} 9; relocate 0 = 3; "
                + "read 0 0 = 7; advance; pass 100; reclaim = 0; read 0 0 = 7");
        e.edge("`reader`: 0 to 5", "write 0 7; enter {0 5}; hold {0 5} 0; read {0 5} 0 = 7; read {-1 6} 0 ! Index");
        e.edge("`address`: address of a block",
            "reset 10 12 5; write 0 {1..107}; write 1 7 = 139; enter 0; hold 0 1; read 0 {-1 12 15 140 143 156 160} ! Index; "
                + "read 0 {144 155} ! Element; read 0 139 = 7",
            "reset 3 2 5; write 0 7; enter 0; hold 0 0; read 0 {-1 2 15 18 34 48} ! Index; read 0 {1 33} ! Element; "
                + "read 0 0 = 7");
        e.edge("Returns its value.", "write 0 min; write 1 max; write 2 -1; enter 0; hold 0 {0 1 2}; "
                + "read 0 {0 1 2} = {min max -1}");
        e.edge("Throws `IndexOutOfBoundsException` if the reader or the block does not exist",
            "read {-1 6} {0 -1 4} ! Index; write 0 1; enter {0..5}; hold {0..5} 0; read {-1 -6 6 7 32 min max} 0 ! Index; "
                + "read {0 5} {-1 -16 4 15 52 64 160 min max} ! Index");
        e.edge("Throws `NoSuchElementException` if it does not hold the block",
            "read {0..5} {0 51} ! Element; write {0 1} 1; enter 0; read 0 0 ! Element; hold 0 0; read 0 1 ! Element; "
                + "read 1 0 ! Element; read 0 0 = 1; release 0 0; read 0 0 ! Element",
            "write 0 1; enter 0; hold 0 0; announce 0; read 0 0 ! Element");
    }

    private static void reader(Edges e) {
        e.under("Promise 23: reader");
        e.plain("Describes a reader.");
        e.edge("`reader`: 0 to 5", "enter {0 5}; reader {0..5} 0 = {1 0 0 0 0 1}; reader {-1 6} 0 ! Index");
        e.edge("`what`: 0: 0 if it is outside, 1 if it is inside, 2 if it is expelled; 1: the epoch that it announced last, "
                + "NONE if it is not inside; 2: number of blocks that it holds; 3: its stall; 4: number of waiting blocks "
                + "that it holds",
            "reset 4 4 3; reader 4 {0..4} = {0 -1 0 0 0}; write {0 1} 1; enter 4; reader 4 {0..4} = {1 0 0 0 0}; "
                + "hold 4 {0 1}; write 0 2; pass 6; reader 4 {0..4} = {1 0 2 0 1}; advance; "
                + "reader 4 {0..4} = {1 0 2 0 1}; pass 2; delete {0 1}; reader 4 {0..4} = {1 0 2 2 2}; pass 1; expel 4; "
                + "reader 4 {0..4} = {2 -1 0 0 0}; enter 4; reader 4 {0..4} = {1 1 0 0 0}; leave 4; "
                + "reader 4 {0..4} = {0 -1 0 0 0}",
            "write {0 1} 1; takeSnapshot 0; enter 0; hold 0 {0 1}; delete 0; reader 0 {2 4} = {2 0}; dropSnapshot 0; "
                + "reader 0 {2 4} = {2 1}");
        e.edge("Returns the requested number.", "enter 0; announce 0; advance; announce 0; reader 0 1 = 1; pass 1; advance; "
                + "reader 0 {1 3} = {1 0}; pass 1000; reader 0 3 = 1000");
        e.edge("Throws `IndexOutOfBoundsException` if the reader does not exist",
            "reader {-1 6} {0..4} ! Index; enter {0..5}; reader {-1 -6 6 7 32 min max} {0 4 -1 5} ! Index");
        e.edge("Throws `IllegalArgumentException` for any other what",
            "reader {0 5} {-1 5 6 min max} ! Argument; enter {0 5}; reader {0 5} {-1 5 6 min max} ! Argument");
    }

    private static void blockers(Edges e) {
        e.under("Promise 24: blockers");
        e.edge("Tells which readers keep the present epoch from advancing.",
            "blockers = 0; enter {0..5}; blockers = 0; advance; blockers = 63; announce 3; blockers = 0x37; leave 0; "
                + "blockers = 0x36; pass 5; expel 5; blockers = 0x16; enter 5; blockers = 0x16; advance ! State; "
                + "announce {1 2 4}; blockers = 0; advance = 2");
        e.edge("Returns the readers as a bit mask.", "enter 0; advance; blockers = 1; enter 5; blockers = 1; announce 0; "
                + "blockers = 0; advance; blockers = 0x21; leave 0; blockers = 0x20");
    }

    private static void expel(Edges e) {
        e.under("Promise 25: expel");
        e.plain("Expels a reader.");
        e.edge("`reader`: 0 to 5", "enter {0 5}; advance; pass 5; expel {0 5} = 0; reader {0 5} 0 = 2; expel {-1 6} ! Index");
        e.edge("Returns the number of blocks that it held.",
            "write {0 1} 1; enter {0 1 2}; hold 0 {0 1}; hold 1 0; delete 0; advance; pass 5; expel {0 1 2} = {2 1 0}; "
                + "neededBy {0 1} = {0 0x10000}",
            "reset 3 12 1; write {0..23} 1; enter 5; hold 5 {0..23}; advance; pass 1; expel 5 = 24");
        e.edge("Throws `IndexOutOfBoundsException` if the reader does not exist",
            "expel {-1 6} ! Index; enter {0..5}; advance; pass 5; expel {-1 -6 6 7 32 min max} ! Index");
        e.edge("Throws `IllegalStateException` if it is not inside, or its stall is less than the patience",
            "pass 9; expel {0..5} ! State; enter 0; pass 9; expel 0 ! State; advance; expel 0 ! State; pass 4; "
                + "expel 0 ! State; pass 1; expel 0 = 0; expel 0 ! State; leave 0; expel 0 ! State",
            "enter 0; advance; pass 9; announce 0; expel 0 ! State; pass 9; expel 0 ! State; advance; pass 4; expel 0 ! State",
            "reset 3 2 1; enter 0; advance; expel 0 ! State; pass 1; expel 0 = 0",
            "reset 3 2 100; enter 0; pass 50; advance; pass 99; expel 0 ! State; pass 1; expel 0 = 0");
    }

    private static void reclaimableWithout(Edges e) {
        e.under("Promise 26: reclaimableWithout");
        e.edge("Counts the waiting blocks that could be reclaimed without a reader: in thought the reader is outside, then "
                + "the epoch advances as long as it can, but at most twice.",
            "reclaimableWithout {-1 0 5} = 0; write 0 {1 2}; reclaimableWithout {-1 0 5} = 1",
            "write 0 {1 2}; advance; write 0 3; enter 0; write 0 4; reclaimableWithout -1 = 1; reclaimableWithout 0 = 3; "
                + "reclaimableWithout {1..5} = 1; enter 1; reclaimableWithout {-1 0 1} = 1",
            "write 0 {1 2}; enter 0; advance; write 0 3; advance ! State; reclaimableWithout -1 = 0; "
                + "reclaimableWithout 0 = 2; enter 1; reclaimableWithout {0 1} = {1 0}",
            "reset 10 4 1; write 0 {1 2}; advance; write 0 3; enter 0; advance; write 0 4; pass 1; "
                + "reclaimableWithout {-1 0} = {1 3}; expel 0; reclaimableWithout {-1 0} = 3; enter 0; "
                + "reclaimableWithout {-1 0} = {2 3}; reclaim = 1; reclaimableWithout {-1 0} = {1 2}; count 3 = 2");
        e.edge("`reader`: 0 to 5, or NONE if no reader leaves",
            "write 0 {1 2}; enter 5; reclaimableWithout {-1 0 5} = {0 0 1}; reclaimableWithout {-2 6} ! Index; leave 5; "
                + "enter 0; reclaimableWithout {-1 0 5} = {0 1 0}");
        e.edge("Returns the number of waiting blocks that could be reclaimed then.",
            "write 0 1; reclaimableWithout -1 = 0; delete 0; reclaimableWithout -1 = 1; 2 x advance; "
                + "reclaimableWithout -1 = 1; reclaim = 1; reclaimableWithout -1 = 0",
            "reset 10 12 5; write 0 {1..108}; enter 0; reclaimableWithout {-1 0} = {0 107}");
        e.edge("Throws `IndexOutOfBoundsException` if the reader does not exist",
            "reclaimableWithout {-2 6 7 32 min max} ! Index; enter {0..5}; reclaimableWithout {-2 -6 6 32 min max} ! Index");
    }

    private static void costliestReader(Edges e) {
        e.under("Promise 27: costliestReader");
        e.edge("Finds the reader without which most waiting blocks could be reclaimed.",
            "write 0 {1 2}; enter 5; costliestReader = 5; leave 5; enter 0; costliestReader = 0",
            "write 0 1; enter {1 4}; advance; announce 1; write 0 2; costliestReader = -1; advance ! State; leave 1; "
                + "costliestReader = 4",
            "write 0 {1 2}; enter {1 4}; advance; announce 1; costliestReader = 4; announce 4; costliestReader = -1");
        // That of several readers the lowest one is answered cannot be seen: two readers inside never both bring more.
        e.edge("Returns the reader, of several the lowest one; NONE if there is none without which more could be reclaimed "
                + "than if no reader leaves.",
            "costliestReader = -1; write 0 {1 2}; costliestReader = -1; enter 0; costliestReader = 0; enter 1; "
                + "costliestReader = -1; leave 0; costliestReader = 1; advance; advance ! State; costliestReader = 1; "
                + "leave 1; advance; enter 1; costliestReader = -1",
            "enter 0; costliestReader = -1; write 0 1; costliestReader = -1; delete 0; costliestReader = 0; leave 0; "
                + "2 x advance; enter 0; costliestReader = -1; reclaim = 1; costliestReader = -1",
            "write 0 {1 2}; enter {0..5}; advance; announce {0..4}; costliestReader = 5; leave 5; costliestReader = -1; "
                + "leave {0..3}; costliestReader = -1; write 0 3; costliestReader = 4");
    }
}
