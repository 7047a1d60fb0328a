/** Promises 37 to 46: reclaiming, relocation, and what they would bring. */
public final class ReclaimTest {
    private static final Check CHECK = new Check("ReclaimTest");

    public static void main(String[] args) {
        reclaim();
        reclaimBesideReaders();
        wouldErase();
        advancesToErase();
        relocate();
        relocateNeedsRoom();
        victim();
        victimOfSeveral();
        relocationsFor();
        relocationsForWithoutAWay();
        manyRelocations();
        regainable();
        amplification();
        wearGap();
        CHECK.end();
    }

    private static void write(AppendedVolume v, int... keys) {
        for (int key : keys) {
            v.write(key, 100 + key);
        }
    }

    private static void delete(AppendedVolume v, int... keys) {
        for (int key : keys) {
            v.delete(key);
        }
    }

    private static void advance(AppendedVolume v, int times) {
        for (int i = 0; i < times; i++) {
            v.advance();
        }
    }

    private static void reclaim() {
        AppendedVolume v = new AppendedVolume();
        v.reset(4, 2, 5);
        CHECK.due(0, "nothing to reclaim", v::reclaim);
        write(v, 0, 0, 0, 1, 0);
        advance(v, 1);
        CHECK.due(0, "one advance is not enough", v::reclaim);
        write(v, 0);
        advance(v, 1);
        CHECK.due(3, "the blocks of epoch 0", v::reclaim);
        CHECK.due(0, "segment 0 is free", () -> v.segment(0, 0));
        CHECK.due(1, "and erased once", () -> v.segment(0, 4));
        CHECK.due(2, "segment 1 has a live block and is full", () -> v.segment(1, 0));
        CHECK.due(1, "and a dead one", () -> v.segment(1, 3));
        CHECK.due(-1, "that does not wait", () -> v.block(16, 4));
        CHECK.due(2, "the block of epoch 1 waits still", () -> v.segment(2, 0) * v.segment(2, 2));
        CHECK.due(1, "only dead blocks count", () -> v.blocks(4));
        v.delete(1);
        advance(v, 2);
        CHECK.due(2, "blocks that die later", v::reclaim);
        CHECK.due(1, "their segment is erased", () -> v.segment(1, 4));
        CHECK.due(0, "a segment with a live block is not", () -> v.segment(2, 4));
        AppendedVolume w = new AppendedVolume();
        write(w, 0, 0, 0);
        w.delete(0);
        advance(w, 2);
        CHECK.due(3, "blocks of an open segment die", w::reclaim);
        CHECK.due(1, "but it is not erased", () -> w.segment(0, 0));
        CHECK.due(3, "its last block is next", () -> w.write(1, 1));
        w.delete(1);
        advance(w, 2);
        CHECK.due(1, "now it is full", w::reclaim);
        CHECK.due(0, "and erased", () -> w.segment(0, 0));
    }

    private static void reclaimBesideReaders() {
        AppendedVolume v = new AppendedVolume();
        v.reset(4, 2, 5);
        write(v, 0, 1);
        v.enter(0);
        v.hold(0, 0);
        delete(v, 0, 1);
        advance(v, 1);
        CHECK.due(0, "a reader inside keeps the epoch back", v::reclaim);
        CHECK.due(100, "so that it can read still", () -> v.read(0, 0));
        v.leave(0);
        advance(v, 1);
        CHECK.due(2, "it has left", v::reclaim);
    }

    private static void wouldErase() {
        AppendedVolume v = new AppendedVolume();
        v.reset(6, 2, 5);
        CHECK.due(0, "a new volume", v::wouldErase);
        write(v, 0, 0, 0, 0, 1, 0, 0);
        CHECK.due(0, "nothing can be reclaimed yet", v::wouldErase);
        advance(v, 1);
        CHECK.due(0, "nor after one advance", v::wouldErase);
        advance(v, 1);
        CHECK.due(2, "two full segments, not the one with a live block, nor the open one", v::wouldErase);
        v.delete(1);
        CHECK.due(2, "a block that begins to wait now keeps its segment", v::wouldErase);
        CHECK.due(0, "it erases nothing by itself", () -> v.segment(0, 4));
        v.reclaim();
        CHECK.due(0, "after reclaim", v::wouldErase);
        advance(v, 2);
        CHECK.due(1, "a segment with a dead and a waiting block", v::wouldErase);
    }

    private static void advancesToErase() {
        AppendedVolume v = new AppendedVolume();
        v.reset(5, 2, 5);
        write(v, 0, 1, 2, 3, 4);
        CHECK.noElement("live blocks", () -> v.advancesToErase(0));
        CHECK.noElement("an open segment", () -> v.advancesToErase(2));
        CHECK.noElement("a free segment", () -> v.advancesToErase(3));
        v.takeSnapshot(0);
        delete(v, 2, 3, 4);
        CHECK.noElement("kept blocks", () -> v.advancesToErase(1));
        CHECK.noElement("an open segment with kept blocks", () -> v.advancesToErase(2));
        v.dropSnapshot(0);
        CHECK.due(2, "blocks that begin to wait", () -> v.advancesToErase(1));
        CHECK.noElement("an open segment with waiting blocks", () -> v.advancesToErase(2));
        v.delete(0);
        advance(v, 1);
        v.delete(1);
        CHECK.due(2, "the latest waiting block counts", () -> v.advancesToErase(0));
        CHECK.due(1, "one advance less", () -> v.advancesToErase(1));
        v.enter(0);
        advance(v, 1);
        CHECK.due(0, "none is missing", () -> v.advancesToErase(1));
        CHECK.due(1, "readers do not matter", () -> v.advancesToErase(0));
        v.reclaim();
        CHECK.noElement("it is erased", () -> v.advancesToErase(1));
        CHECK.due(1, "a dead and a waiting block", () -> v.advancesToErase(0));
        v.leave(0);
        advance(v, 3);
        CHECK.due(0, "long since", () -> v.advancesToErase(0));
        for (int wrong : new int[] {-1, 5, Integer.MIN_VALUE, Integer.MAX_VALUE}) {
            CHECK.noIndex("advancesToErase of " + wrong, () -> v.advancesToErase(wrong));
        }
    }

    private static void relocate() {
        AppendedVolume v = new AppendedVolume();
        v.pass(3);
        write(v, 0, 1, 2, 3, 4);
        v.takeSnapshot(0);
        v.takeSnapshot(1);
        v.write(1, 555);
        delete(v, 3);
        v.dropSnapshot(1);
        v.enter(2);
        v.hold(2, 0);
        v.pass(4);
        advance(v, 1);
        CHECK.noState("an open segment", () -> v.relocate(1));
        CHECK.noState("a free segment", () -> v.relocate(2));
        CHECK.due(4, "live and kept blocks", () -> v.relocate(0));
        CHECK.due(-1, "the second head is full again", () -> v.count(9));
        CHECK.due(4, "blocks appended by relocation", () -> v.count(7));
        CHECK.due(6, "user writes are counted apart", () -> v.count(6));
        CHECK.due(32, "a live block", () -> v.addressOf(0));
        CHECK.due(100, "its value", () -> v.get(0));
        CHECK.due(3, "its tick", () -> v.block(32, 3));
        CHECK.due(2, "a kept block stays kept", () -> v.block(33, 0));
        CHECK.due(0x100, "and with its snapshot", () -> v.neededBy(33));
        CHECK.due(0x10100, "a live block of a snapshot", () -> v.neededBy(34));
        CHECK.due(101, "its value in the snapshot", () -> v.getFrom(0, 1));
        CHECK.due(555, "the key has its own value", () -> v.get(1));
        CHECK.due(3, "the old block waits", () -> v.block(0, 0));
        CHECK.due(1, "since the present epoch", () -> v.block(0, 4));
        CHECK.due(1 << 2, "held at its old place", () -> v.neededBy(0));
        CHECK.due(0, "a segment without live and kept blocks", () -> v.relocate(0));
        CHECK.due(-1, "opens no head", () -> v.count(9));
        write(v, 5, 6);
        CHECK.due(4, "into the last free segment", () -> v.relocate(1));
        CHECK.due(48, "its first block", () -> v.addressOf(4));
        for (int wrong : new int[] {-1, 4, Integer.MIN_VALUE, Integer.MAX_VALUE}) {
            CHECK.noIndex("relocate " + wrong, () -> v.relocate(wrong));
        }
    }

    private static void relocateNeedsRoom() {
        AppendedVolume v = new AppendedVolume();
        v.reset(3, 4, 5);
        write(v, 0, 1, 2, 3, 4, 5, 6, 7);
        delete(v, 0, 4, 5);
        CHECK.due(3, "three blocks find room", () -> v.relocate(0));
        CHECK.due(2, "one place is left in the second head", () -> v.count(9));
        CHECK.noState("two blocks do not find room", () -> v.relocate(1));
        CHECK.due(3, "relocation that throws does not count", () -> v.count(7));
        v.delete(6);
        CHECK.due(1, "one block does", () -> v.relocate(1));
        CHECK.due(2, "the last segment is full", () -> v.segment(2, 0));
        CHECK.noState("four blocks find no room", () -> v.relocate(2));
        CHECK.due(0, "no block needs none", () -> v.relocate(1));
        // from the rest of the second head into a free segment
        AppendedVolume w = new AppendedVolume();
        w.reset(5, 2, 5);
        write(w, 0, 1, 2, 3, 4);
        w.delete(0);
        w.relocate(0);
        CHECK.due(2, "one in the head and one in the next segment", () -> w.relocate(1));
        CHECK.due(49, "the first one", () -> w.addressOf(2));
        CHECK.due(64, "the second one", () -> w.addressOf(3));
        CHECK.due(4, "the new second head", () -> w.count(9));
        CHECK.due(2, "the first head", () -> w.count(8));
    }

    private static void victim() {
        AppendedVolume v = new AppendedVolume();
        v.reset(6, 4, 5);
        for (int rule = 0; rule < 3; rule++) {
            int which = rule;
            CHECK.noElement("no full segment, rule " + rule, () -> v.victim(which));
        }
        write(v, 0, 1, 2, 3);
        CHECK.noElement("a full segment that is used wholly", () -> v.victim(0));
        v.pass(10);
        write(v, 4, 5, 6, 7);
        v.pass(10);
        write(v, 8, 9, 10, 11);
        v.pass(1);
        write(v, 12);
        delete(v, 0, 4, 5, 8, 9, 10, 12);
        // uses 3, 2, 1 and ages 21, 11, 1: gains 21/7, 22/6, 3/5
        CHECK.due(2, "least use", () -> v.victim(0));
        CHECK.due(1, "greatest gain", () -> v.victim(1));
        CHECK.due(0, "greatest age", () -> v.victim(2));
        v.pass(17);
        // ages 38, 28, 18: gains 38/7, 56/6, 54/5
        CHECK.due(2, "greatest gain later", () -> v.victim(1));
        v.takeSnapshot(0);
        delete(v, 6, 7);
        CHECK.due(1, "kept blocks are in use", () -> v.segment(2, 1));
        CHECK.due(2, "so nothing changes for them", () -> v.victim(0));
        v.dropSnapshot(0);
        CHECK.due(1, "a segment without use", () -> v.victim(0));
        for (int wrong : new int[] {-1, 3, Integer.MIN_VALUE, Integer.MAX_VALUE}) {
            CHECK.noArgument("victim(" + wrong + ")", () -> v.victim(wrong));
        }
    }

    private static void victimOfSeveral() {
        AppendedVolume v = new AppendedVolume();
        v.reset(6, 3, 5);
        write(v, 0, 1, 2, 3, 4, 5, 6, 7, 8);
        delete(v, 3, 6);
        for (int rule = 0; rule < 3; rule++) {
            int which = rule;
            CHECK.due(1, "the lowest of equal ones, rule " + rule, () -> v.victim(which));
        }
        // (3 - 1) * 1 / (3 + 1) is the same as (3 - 2) * 5 / (3 + 2) halved: fractions, not rounded
        AppendedVolume w = new AppendedVolume();
        w.reset(6, 3, 5);
        write(w, 0, 1, 2);
        w.pass(4);
        write(w, 3, 4, 5);
        w.pass(2);
        delete(w, 0, 3, 4);
        // gains 1 * 6 / 5 and 2 * 2 / 4
        CHECK.due(0, "6/5 is more than 4/4", () -> w.victim(1));
        w.pass(1);
        // gains 7/5 and 6/4
        CHECK.due(1, "7/5 is less than 6/4", () -> w.victim(1));
    }

    private static void relocationsFor() {
        AppendedVolume v = new AppendedVolume();
        v.reset(4, 4, 5);
        write(v, 0, 1, 2, 3, 4, 5, 6, 7, 8, 9, 10, 11);
        delete(v, 0, 1, 2, 4, 5, 8);
        v.enter(0);
        v.advance();
        v.pass(3);
        // uses 1, 2, 3 and one free segment: the first relocation frees a segment and takes the last one
        CHECK.due(0, "no room now", v::room);
        CHECK.due(2, "the second one finds room beside the first", () -> v.relocationsFor(0, 1));
        CHECK.due(2, "it frees one segment more", () -> v.relocationsFor(0, 4));
        CHECK.noElement("the third one frees one and takes one", () -> v.relocationsFor(0, 5));
        CHECK.due(1, "the epoch stays", () -> v.count(3));
        CHECK.due(1, "the reader stays", () -> v.reader(0, 0));
        CHECK.due(6, "the blocks wait still", () -> v.blocks(3));
        CHECK.due(-1, "the heads stay", () -> v.count(9));
        CHECK.due(0, "no block is relocated", () -> v.count(7));
        AppendedVolume w = new AppendedVolume();
        CHECK.due(0, "all the room there is", () -> w.relocationsFor(0, 12));
        CHECK.noElement("one write more", () -> w.relocationsFor(0, 13));
        for (int wrong : new int[] {-1, 3, Integer.MIN_VALUE, Integer.MAX_VALUE}) {
            CHECK.noArgument("relocationsFor(" + wrong + ", 1)", () -> w.relocationsFor(wrong, 1));
        }
        for (int wrong : new int[] {0, -1, 121, Integer.MIN_VALUE, Integer.MAX_VALUE}) {
            CHECK.noArgument("relocationsFor(0, " + wrong + ")", () -> w.relocationsFor(0, wrong));
        }
        CHECK.noElement("120 writes are a number", () -> w.relocationsFor(2, 120));
    }

    private static void relocationsForWithoutAWay() {
        AppendedVolume v = new AppendedVolume();
        v.reset(3, 2, 5);
        write(v, 0, 1, 2, 3);
        CHECK.noElement("all segments are used wholly", () -> v.relocationsFor(0, 1));
        v.relocate(0);
        CHECK.due(0, "the relocated one is reclaimed, and alone is free", v::room);
        CHECK.noElement("so nothing is won", () -> v.relocationsFor(0, 1));
        v.delete(0);
        // segments 1 and 2 are full, segment 2 has use 1; 0 becomes free; then 2 goes to 0
        CHECK.noElement("a block in the second head keeps its segment", () -> v.relocationsFor(0, 1));
        v.delete(2);
        // uses 1 and 1: the first goes to segment 0, the second one beside it
        CHECK.due(2, "two halves find one segment", () -> v.relocationsFor(0, 1));
        CHECK.due(2, "which has two places", () -> v.relocationsFor(1, 2));
        CHECK.noElement("but not three", () -> v.relocationsFor(2, 3));
    }

    private static void manyRelocations() {
        AppendedVolume v = new AppendedVolume();
        v.reset(10, 2, 5);
        for (int key = 0; key < 18; key++) {
            write(v, key);
        }
        for (int key = 0; key < 18; key += 2) {
            delete(v, key);
        }
        // nine full segments with use 1: every two of them become one
        int[] wants = {2, 2, 4, 4, 6, 6, 8, 8};
        for (int rule = 0; rule < 3; rule++) {
            int which = rule;
            for (int i = 0; i < wants.length; i++) {
                int writes = i + 1;
                CHECK.due(wants[i], "relocationsFor(" + rule + ", " + writes + ")", () -> v.relocationsFor(which, writes));
            }
            CHECK.noElement("the ninth one wins nothing, rule " + rule, () -> v.relocationsFor(which, 9));
        }
        CHECK.due(9, "in thought alone", () -> v.blocks(1));
    }

    private static void regainable() {
        AppendedVolume v = new AppendedVolume();
        v.reset(4, 2, 5);
        CHECK.due(8, "all blocks of a new volume", v::regainable);
        CHECK.due(0, "none of them becomes unused", v::regainableNow);
        write(v, 0, 0, 0, 1, 2);
        CHECK.due(5, "all but the live ones", v::regainable);
        CHECK.due(2, "the segment that waits", v::regainableNow);
        v.takeSnapshot(0);
        delete(v, 0, 1, 2);
        CHECK.due(5, "all but the kept ones", v::regainable);
        CHECK.due(2, "kept blocks keep their segments", v::regainableNow);
        v.dropSnapshot(0);
        CHECK.due(8, "nothing is needed", v::regainable);
        CHECK.due(4, "an open segment is not erased", v::regainableNow);
        v.enter(0);
        v.advance();
        CHECK.due(4, "readers leave in thought", v::regainableNow);
        v.write(5, 5);
        v.delete(5);
        CHECK.due(6, "whole segments", v::regainableNow);
        v.leave(0);
        advance(v, 1);
        v.reclaim();
        CHECK.due(2, "a segment with a dead and a waiting block", v::regainableNow);
        CHECK.due(8, "unused blocks are counted", v::regainable);
    }

    private static void amplification() {
        AppendedVolume v = new AppendedVolume();
        CHECK.noElement("no user writes: numerator", () -> v.amplification(false));
        CHECK.noElement("no user writes: denominator", () -> v.amplification(true));
        write(v, 0, 1, 2, 3);
        CHECK.due(1, "no relocation: numerator", () -> v.amplification(false));
        CHECK.due(1, "no relocation: denominator", () -> v.amplification(true));
        delete(v, 0, 1);
        v.relocate(0);
        CHECK.due(3, "6 / 4 in lowest terms: numerator", () -> v.amplification(false));
        CHECK.due(2, "6 / 4 in lowest terms: denominator", () -> v.amplification(true));
        write(v, 4);
        CHECK.due(7, "7 / 5: numerator", () -> v.amplification(false));
        CHECK.due(5, "7 / 5: denominator", () -> v.amplification(true));
        v.reset(3, 2, 5);
        CHECK.noElement("a new volume begins to count anew", () -> v.amplification(true));
    }

    private static void wearGap() {
        AppendedVolume v = new AppendedVolume();
        v.reset(3, 2, 5);
        CHECK.due(0, "no erases", v::wearGap);
        int[] wants = {1, 1, 0, 1, 1, 0, 1};
        for (int want : wants) {
            write(v, 0, 0);
            v.delete(0);
            advance(v, 2);
            v.reclaim();
            CHECK.due(want, "segments wear in turn", v::wearGap);
        }
        v.reset(3, 2, 5);
        CHECK.due(0, "new segments", v::wearGap);
        write(v, 1, 2);
        write(v, 3, 3);
        for (int i = 0; i < 3; i++) {
            v.delete(3 + i);
            advance(v, 2);
            v.reclaim();
            write(v, 4 + i, 4 + i);
        }
        CHECK.due(2, "a segment with live blocks does not wear", v::wearGap);
    }
}
