/** The boundary cases of promises 37 to 47: reclaiming and relocation, what they would bring, and undo. */
final class ReclaimEdges {
    private ReclaimEdges() {
    }

    static void tell(Edges e) {
        reclaim(e);
        wouldErase(e);
        advancesToErase(e);
        relocate(e);
        victim(e);
        relocationsFor(e);
        relocationsForWithoutAWay(e);
        regainable(e);
        regainableNow(e);
        amplification(e);
        wearGap(e);
        undo(e);
    }

    private static void reclaim(Edges e) {
        e.under("Promise 37: reclaim");
        e.plain("Reclaims (section 4).");
        e.edge("Returns the number of blocks that became dead.",
            "reclaim = 0; write 0 {1..6}; reclaim = 0; advance; write 0 {7 8}; reclaim = 0; advance; reclaim = 5; "
                + "blocks {3 4} = {2 1}; segment 0 4 = 1; reclaim = 0; advance; reclaim = 2; reclaim = 0; delete 0; "
                + "2 x advance; reclaim = 1; blocks {3 4} = 0",
            "write {0 1} 1; takeSnapshot 0; delete 0; 2 x advance; reclaim = 0; blocks {1 2} = 1",
            "write 0 1; enter 0; hold 0 0; delete 0; advance; reclaim = 0; read 0 0 = 1; leave 0; advance; reclaim = 1");
    }

    private static void wouldErase(Edges e) {
        e.under("Promise 38: wouldErase");
        e.edge("Counts the segments that reclaim() would erase.",
            "reset 6 2 5; write 0 {1 2 3 4}; write 1 1; write 0 {5 6}; wouldErase = 0; advance; wouldErase = 0; advance; "
                + "wouldErase = 2; delete 1; wouldErase = 2; segment {0..3} 4 = 0; reclaim = 5; segment {0..3} 4 = {1 1 0 0}; "
                + "wouldErase = 0; advance; wouldErase = 0; advance; wouldErase = 1; reclaim = 1; segment 2 4 = 1",
            "write {0 1 2} 1; delete {0 1 2}; 2 x advance; wouldErase = 0; reclaim = 3; wouldErase = 0; write 3 1; "
                + "wouldErase = 0; takeSnapshot 0; delete 3; 2 x advance; wouldErase = 0; dropSnapshot 0; wouldErase = 0; "
                + "2 x advance; wouldErase = 1");
        e.edge("Returns the number of segments.",
            "wouldErase = 0; reset 10 12 5; write 0 {1..108}; 2 x advance; wouldErase = 8; delete 0; 2 x advance; "
                + "wouldErase = 9; reclaim = 108; wouldErase = 0; wearGap = 1");
    }

    private static void advancesToErase(Edges e) {
        e.under("Promise 39: advancesToErase");
        e.edge("Finds the least number of advances of the epoch behind which reclaim() would erase a segment, if nothing "
                + "else happened.",
            "reset 4 2 5; write {0 1} 1; delete 0; advance; delete 1; advancesToErase 0 = 2; advance; advancesToErase 0 = 1; "
                + "reclaim = 1; advancesToErase 0 = 1; advance; advancesToErase 0 = 0; wouldErase = 1; 9 x advance; "
                + "advancesToErase 0 = 0",
            "reset 4 2 5; write {0 1} 1; delete 0; 2 x advance; delete 1; advancesToErase 0 = 2",
            "reset 4 2 5; write 0 {1 2}; delete 0; enter 0; advance; advance ! State; advancesToErase 0 = 1");
        e.edge("`segment`: number of a segment",
            "reset 3 2 5; write 0 {1..4}; relocate 1 = 1; delete 0; relocate 0 = 0; advancesToErase {0 1} = 2; "
                + "advancesToErase 2 ! Element; advancesToErase {-1 3} ! Index",
            "reset 3 2 5; write {0..3} 1; relocate 1 = 2; delete {2 3}; advancesToErase {1 2} = 2; advancesToErase 0 ! Element");
        e.edge("Returns 0 to 2.",
            "reset 4 2 5; write 0 {1 2}; delete 0; advancesToErase 0 = 2; advance; advancesToErase 0 = 1; advance; "
                + "advancesToErase 0 = 0; advance; advancesToErase 0 = 0; reclaim = 2; advancesToErase 0 ! Element");
        e.edge("Throws `IndexOutOfBoundsException` if the segment does not exist",
            "advancesToErase {-1 4 5 16 min max} ! Index; reset 3 2 5; advancesToErase {-1 3 4 min max} ! Index");
        e.edge("Throws `NoSuchElementException` if it is not full, or has live or kept blocks",
            "reset 4 2 5; advancesToErase {0..3} ! Element; write 0 1; advancesToErase 0 ! Element; delete 0; "
                + "advancesToErase 0 ! Element; write 0 1; advancesToErase 0 ! Element; takeSnapshot 0; delete 0; "
                + "advancesToErase 0 ! Element; dropSnapshot 0; advancesToErase 0 = 2",
            "reset 4 2 5; write 0 1; delete 0; 2 x advance; reclaim = 1; advancesToErase 0 ! Element");
    }

    private static void relocate(Edges e) {
        e.under("Promise 40: relocate");
        e.plain("Relocates a segment (section 4).");
        e.edge("`segment`: number of a segment",
            "reset 3 2 5; write {0 1} 1; relocate 0 = 2; relocate 2 ! State; relocate 1 = 2; addressOf {0 1} = {32 33}; "
                + "relocate {-1 3} ! Index",
            "reset 10 2 5; write {0..17} 1; relocate 8 = 2; addressOf {16 17} = {144 145}; relocate {-1 10} ! Index");
        e.edge("Returns the number of blocks that were relocated.",
            "reset 4 2 5; write {0..3} 1; delete {0 1 2}; relocate 0 = 0; count {7 9} = {0 -1}; relocate 1 = 1; "
                + "count {7 9} = {1 2}; relocate 1 = 0; count 7 = 1",
            "write {0 1} 1; takeSnapshot 0; write {2 3} 1; delete {0 2}; relocate 0 = 3; count 7 = 3",
            "reset 3 12 5; write {0..11} 1; relocate 0 = 12; count {7 9} = {12 -1}; segment 1 0 = 2");
        e.edge("Throws `IndexOutOfBoundsException` if the segment does not exist",
            "relocate {-1 4 5 16 min max} ! Index; reset 3 2 5; write {0..3} 1; relocate {-1 3 4 min max} ! Index");
        e.edge("Throws `IllegalStateException` if it is not full, or there is not enough room",
            "relocate {0..3} ! State; write {0 1 2} 1; relocate 0 ! State; write 3 1; relocate 0 = 4; relocate {2 3} ! State",
            "write {0..3} 1; delete 0; relocate 0 = 3; relocate 1 ! State; count 9 = 1",
            "reset 3 4 5; write {0..7} 1; delete {0 4 5}; relocate 0 = 3; count 7 = 3; relocate 1 ! State; count 7 = 3; "
                + "addressOf {6 7} = {18 19}; delete 6; relocate 1 = 1; relocate 2 ! State; relocate {0 1} = 0",
            "reset 3 2 5; write {0..3} 1; relocate 0 = 2; relocate 1 ! State; delete 2; relocate 1 ! State; delete 3; "
                + "relocate 1 = 0");
    }

    private static void victim(Edges e) {
        e.under("Promise 41: victim");
        e.edge("Chooses a full segment whose use is less than the number of its blocks, for relocation.",
            "reset 4 2 5; write {0 1} 1; pass 9; write {2 3} 1; pass 1; victim {0 1 2} ! Element; delete 3; "
                + "victim {0 1 2} = 1; delete 2; victim {0 1 2} = 1; 2 x advance; reclaim = 2; victim {0 1 2} ! Element",
            "reset 4 2 5; write 0 1; pass 9; delete 0; victim {0 1 2} ! Element; write 1 1; victim {0 1 2} = 0",
            "reset 4 2 5; write {0 1} 1; takeSnapshot 0; delete {0 1}; victim {0 1 2} ! Element; dropSnapshot 0; "
                + "victim {0 1 2} = 0");
        e.edge("`rule`: 0: the one with the least use; 1: the one with the greatest (n - use) * age / (n + use), compared as "
                + "fractions, where n is the number of its blocks; 2: the one with the greatest age; of several the lowest "
                + "one each time",
            "reset 6 4 5; write {0..3} 1; pass 10; write {4..7} 1; pass 10; write {8..11} 1; pass 1; "
                + "delete {0 4 5 8 9 10}; victim {0 1 2} = {2 1 0}; pass 17; victim {0 1 2} = {2 2 0}; victim {-1 3} ! Argument",
            "reset 6 3 5; write {0..8} 1; delete {3 6}; victim {0 1 2} = 1; pass 5; victim {0 1 2} = 1",
            "reset 6 3 5; write {0..2} 1; pass 4; write {3..5} 1; pass 2; delete {0 3 4}; victim {0 1 2} = {1 0 0}; pass 1; "
                + "victim {0 1 2} = {1 1 0}",
            "reset 6 4 5; write {0..3} 1; pass 2; write {4..7} 1; pass 1; delete {0 1 4 5 6 7}; victim {0 1 2} = {1 0 0}; "
                + "pass 1; victim 1 = 1",
            "reset 6 12 5; write {0..11} 1; pass 4; write {12..23} 1; pass 1; delete {0 1 2 12..21}; victim 1 = 0; pass 1; "
                + "victim 1 = 1",
            "reset 6 2 5; write {0..5} 1; pass 1; delete {0 2 5}; victim {0 1 2} = 0; delete 4; victim {0 1 2} = {2 2 0}",
            "reset 4 2 5; write 0 {1 2}; delete 0; 2 x advance; reclaim = 2; write {0 1} 1; pass 1; write {2 3} 1; pass 1; "
                + "write {4 5} 1; relocate 3 = 2; addressOf {4 5} = {0 1}; 2 x advance; reclaim = 2; pass 1; delete {4 0}; "
                + "victim {0 1 2} = {0 1 1}");
        e.edge("Returns the number of the segment.",
            "reset 10 2 5; write {0..17} 1; pass 1; delete 17; victim {0 1 2} = 8; delete 0; victim {0 1 2} = 0");
        e.edge("Throws `IllegalArgumentException` if rule is out of range",
            "victim {-1 3 4 min max} ! Argument; write {0..3} 1; delete 0; victim {-1 3 4 min max} ! Argument");
        e.edge("Throws `NoSuchElementException` if there is no such segment",
            "victim {0 1 2} ! Element; write {0 1} 1; delete 0; victim {0 1 2} ! Element; write {2 3} 1; victim {0 1 2} = 0; "
                + "relocate 0 = 3; 2 x advance; reclaim = 4; victim {0 1 2} ! Element");
    }

    private static void relocationsFor(Edges e) {
        e.under("Promise 42: relocationsFor");
        e.plain("Computes how many relocations would be necessary for a number of user writes.");
        e.edge("In thought all readers leave; then these steps are repeated: the epoch advances twice, and all is reclaimed; "
                + "if there is room for so many user writes then, this is the end; otherwise the segment that victim() "
                + "chooses by the rule is relocated.",
            "write {0..11} 1; delete {0 1 2 4 5 8}; enter 0; advance; pass 3; room = 0; relocationsFor 0 {1 4} = 2; "
                + "relocationsFor 0 5 ! Element; count {3 7 9} = {1 0 -1}; reader 0 {0 1 3} = {1 0 3}; "
                + "blocks {0 1 3} = {4 6 6}; undo = 7; count 4 = 0",
            "reset 3 2 5; write 0 {1..4}; room = 0; relocationsFor {0 1 2} {1 2} = 0; relocationsFor 0 3 ! Element",
            "reset 5 4 5; write {0..3} 1; pass 9; write {4..15} 1; pass 1; delete {0 4 5 8 9}; victim {0 1 2} = {1 0 0}; "
                + "relocationsFor {0 1 2} 1 = {2 3 3}; pass 40; victim {0 1 2} = {1 1 0}; relocationsFor {0 1 2} 4 = {2 2 3}",
            "reset 10 2 5; write {0..17} 1; delete {0 2 4 6 8 10 12 14 16}; relocationsFor {0 1 2} 1 = 2; "
                + "relocationsFor 0 {1..8} = {2 2 4 4 6 6 8 8}; relocationsFor 0 9 ! Element; blocks 1 = 9",
            "reset 3 4 5; write 0 1; room = 7; relocationsFor {0 1 2} 7 = 0; relocationsFor {0 1 2} 8 ! Element");
        e.edge("`rule`: 0 to 2, as in victim()", "relocationsFor {0 1 2} 12 = 0; relocationsFor {-1 3} 12 ! Argument");
        e.edge("`writes`: number of user writes, 1 to 120",
            "relocationsFor 0 {1 12} = 0; relocationsFor 0 {0 121} ! Argument; relocationsFor 0 120 ! Element",
            "reset 10 12 5; relocationsFor 0 {1 108} = 0; relocationsFor 0 {109 120} ! Element; "
                + "relocationsFor 0 {0 121} ! Argument");
        e.edge("Returns the number of relocations.",
            "relocationsFor 0 1 = 0; reset 3 4 5; write {0..7} 1; delete {0 1 4 5}; room = 0; relocationsFor {0 1 2} 4 = 2; "
                + "delete {2 3}; relocationsFor {0 1 2} 4 = 0");
        e.edge("Throws `IllegalArgumentException` if rule or writes is out of range",
            "relocationsFor {-1 3 4 min max} {1 0 121} ! Argument; relocationsFor {0 1 2} {0 -1 121 122 min max} ! Argument; "
                + "reset 3 2 5; write {0..3} 1; relocationsFor {-1 3 min max} 1 ! Argument; "
                + "relocationsFor 2 {0 121 min max} ! Argument");
    }

    /** That the room or 20 relocations are not enough cannot be seen: see NOTES.md. */
    private static void relocationsForWithoutAWay(Edges e) {
        e.edge("Throws `NoSuchElementException` if there is no segment to choose, or not enough room to relocate it, or 20 "
                + "relocations are not enough",
            "relocationsFor {0 1 2} 13 ! Element; reset 3 2 5; write {0..3} 1; relocationsFor {0 1 2} 1 ! Element; "
                + "relocate 0 = 2; relocationsFor {0 1 2} 1 ! Element; delete 0; relocationsFor {0 1 2} 1 ! Element; delete 2; "
                + "relocationsFor {0 1 2} {1 2} = 2; relocationsFor {0 1 2} 3 ! Element",
            "write {0..3} 1; delete 0; relocationsFor {0 1 2} 8 = 0; relocationsFor {0 1 2} 9 ! Element; write {4..11} 1; "
                + "relocationsFor {0 1 2} 1 ! Element",
            "reset 10 2 5; write {0..17} 1; delete {1 3 5 7 9 11 13 15 17}; relocationsFor {0 1 2} 9 ! Element");
    }

    private static void regainable(Edges e) {
        e.under("Promise 43: regainable");
        e.edge("Counts the blocks that would be unused if all readers left, the epoch advanced twice, all was reclaimed, and "
                + "then all segments were relocated and reclaimed completely: all blocks but the live and kept ones.",
            "reset 4 2 5; regainable = 8; write 0 {1 2}; write {1 2} 1; regainable = 5; takeSnapshot 0; delete {0 1 2}; "
                + "regainable = 5; dropSnapshot 0; regainable = 8; enter 0; advance; regainable = 8; leave 0; advance; "
                + "reclaim = 4; regainable = 8; write 3 1; regainable = 7",
            "write 0 1; delete 0; 2 x advance; reclaim = 1; regainable = 16");
        e.edge("Returns the number of blocks.",
            "reset 10 12 5; regainable = 120; write {0..23} 1; regainable = 96; write 0 2; regainable = 96; takeSnapshot 0; "
                + "write {0..23} 3; regainable = 72",
            "reset 3 2 5; write {0..3} 1; regainable = 2; relocate 0 = 2; regainable = 2");
    }

    private static void regainableNow(Edges e) {
        e.under("Promise 44: regainableNow");
        e.edge("Counts the blocks that would become unused if all readers left, the epoch advanced twice, and reclaim() was "
                + "called, without relocation.",
            "reset 4 2 5; regainableNow = 0; write 0 1; regainableNow = 0; write 0 {2 3}; regainableNow = 2; write 2 1; "
                + "regainableNow = 2",
            "reset 4 2 5; write {0 1} 1; takeSnapshot 0; delete {0 1}; regainableNow = 0; dropSnapshot 0; regainableNow = 2; "
                + "enter 0; advance; advance ! State; regainableNow = 2; leave 0; advance; reclaim = 2; regainableNow = 0",
            "write {0 1 2} 1; delete {0 1 2}; regainableNow = 0; write 3 1; regainableNow = 0; delete 3; regainableNow = 4",
            "reset 4 2 5; write {0 1} 1; delete 0; 2 x advance; reclaim = 1; regainableNow = 0; delete 1; regainableNow = 2");
        e.edge("Returns the number of blocks.",
            "regainableNow = 0; reset 10 12 5; write 0 {1..108}; regainableNow = 96; delete 0; regainableNow = 108",
            "reset 3 2 5; write {0..3} 1; relocate 1 = 2; regainableNow = 2; delete {0..3}; regainableNow = 6");
    }

    private static void amplification(Edges e) {
        e.under("Promise 45: amplification");
        e.edge("Returns how many blocks have been appended for each user write: (user writes + relocated blocks) / user "
                + "writes, as a fraction in lowest terms.",
            "write 0 1; amplification {0 1} = 1; write {1 2 3} 1; amplification {0 1} = 1; delete {0 1}; relocate 0 = 2; "
                + "amplification {0 1} = {3 2}; write 4 1; amplification {0 1} = {7 5}; write 4 2; "
                + "amplification {0 1} = {4 3}",
            "reset 3 2 5; write {0 1} 1; relocate {0 1} = 2; amplification {0 1} = {3 1}; 2 x advance; reclaim = 4; "
                + "relocate 2 = 2; amplification {0 1} = {4 1}");
        e.edge("`denominator`: true for the denominator, false for the numerator",
            "write {0..3} 1; delete 0; relocate 0 = 3; amplification {0 1} = {7 4}");
        e.plain("Returns the requested number.");
        e.edge("Throws `NoSuchElementException` if there were no user writes",
            "amplification {0 1} ! Element; pass 1; advance; amplification {0 1} ! Element; write 0 1; amplification 0 = 1; "
                + "delete 0; amplification 1 = 1; undo = 3; undo = 2; amplification {0 1} ! Element; write 0 1; reset 4 4 5; "
                + "amplification {0 1} ! Element");
    }

    private static void wearGap(Edges e) {
        e.under("Promise 46: wearGap");
        e.edge("Returns the difference of the greatest and the least number of erases of a segment.",
            "reset 3 2 5; wearGap = 0; write 0 {1 2}; delete 0; wearGap = 0; 2 x advance; reclaim = 2; wearGap = 1; "
                + "write 0 {1 2}; delete 0; 2 x advance; reclaim = 2; segment {0 1 2} 4 = {1 1 0}; wearGap = 1; "
                + "write 0 {1 2}; delete 0; 2 x advance; reclaim = 2; segment {0 1 2} 4 = 1; wearGap = 0; write 0 {1 2}; "
                + "delete 0; 2 x advance; reclaim = 2; wearGap = 1",
            "reset 3 2 5; write {1 2} 1; write 0 {1 2}; delete 0; 2 x advance; reclaim = 2; segment {0 1 2} 4 = {0 1 0}; "
                + "wearGap = 1; write 0 {1 2}; delete 0; 2 x advance; reclaim = 2; wearGap = 1; write 0 {1 2}; delete 0; "
                + "2 x advance; reclaim = 2; segment {0 1 2} 4 = {0 2 1}; wearGap = 2");
        e.edge("Returns the difference.",
            "wearGap = 0; reset 10 12 5; write 0 {1..108}; delete 0; 2 x advance; reclaim = 108; wearGap = 1; write 0 {1..12}; "
                + "delete 0; 2 x advance; reclaim = 12; segment 9 4 = 1; wearGap = 0; undo = 7; wearGap = 1; reset 4 4 5; "
                + "wearGap = 0");
    }

    private static void undo(Edges e) {
        e.under("Promise 47: undo");
        e.edge("Undoes the latest change that has not been undone.",
            "write 0 1; write 0 2; delete 0; undo = 2; get 0 = 2; undo = 1; get 0 = 1; write 0 3; undo = 1; get 0 = 1; "
                + "undo = 0; get 0 ! Element",
            "write 0 1; takeSnapshot 0; write 0 2; reset 3 2 1; write 1 1; undo = 4; addressOf 1 = -1; undo = 3; "
                + "count {0 1 2} = {4 4 5}; get 0 = 2; getFrom 0 0 = 1; undo = 2; get 0 = 1; undo = 1; "
                + "getFrom 0 0 ! State; undo = 0; addressOf 0 = -1; count 6 = 0");
        e.edge("Returns the number of changes that can still be undone.",
            "pass 1; undo = 0; 2 x pass 1; undo = {1 0}; 8 x pass 1; undo = 7; pass 1; undo = 7; undo = 6; pass 1; undo = 6",
            "20 x pass 1; undo = {7..0}; count 4 = 12; 9 x pass 1; undo = {7..0}; count 4 = 13");
        e.edge("Throws `IllegalStateException` if there is no change to undo",
            "undo ! State; undo ! State; pass 1; undo = 0; undo ! State; undo ! State; pass 1; undo = 0; undo ! State",
            "9 x pass 1; undo = {7..0}; undo ! State; undo ! State; count 4 = 1; pass 1; undo = 0; undo ! State; count 4 = 1",
            "pass {0 1001} ! Argument; advance; reset 2 2 2 ! Argument; undo = 0; write 24 0 ! Index; undo ! State");
    }
}
