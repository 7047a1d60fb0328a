/** Promises 17 to 27: the readers. */
public final class ReadersTest {
    private static final Check CHECK = new Check("ReadersTest");

    public static void main(String[] args) {
        enterAndLeave();
        announce();
        holdReleaseRead();
        reader();
        blockers();
        expel();
        reclaimableWithout();
        costliestReader();
        wrongReaders();
        CHECK.end();
    }

    private static void enterAndLeave() {
        AppendedVolume v = new AppendedVolume();
        v.write(0, 1);
        v.write(1, 2);
        CHECK.noState("leave from outside", () -> v.leave(0));
        CHECK.due(0, "enter in epoch 0", () -> v.enter(0));
        CHECK.noState("enter from inside", () -> v.enter(0));
        v.advance();
        CHECK.due(1, "enter in epoch 1", () -> v.enter(5));
        v.hold(0, 0);
        v.hold(0, 1);
        v.hold(5, 1);
        CHECK.due(2, "leave answers the held blocks", () -> v.leave(0));
        CHECK.due(0, "it is outside", () -> v.reader(0, 0));
        CHECK.due(0, "it holds nothing", () -> v.reader(0, 2));
        CHECK.due(1, "others hold on", () -> v.reader(5, 2));
        CHECK.noState("leave twice", () -> v.leave(0));
        v.advance();
        v.pass(5);
        v.expel(5);
        CHECK.due(2, "an expelled reader can enter", () -> v.enter(5));
        v.advance();
        v.pass(5);
        v.expel(5);
        CHECK.due(0, "an expelled reader can leave", () -> v.leave(5));
        CHECK.due(0, "and is outside then", () -> v.reader(5, 0));
    }

    private static void announce() {
        AppendedVolume v = new AppendedVolume();
        v.reset(3, 4, 2);
        v.write(0, 1);
        CHECK.noState("announce from outside", () -> v.announce(1));
        v.enter(1);
        v.hold(1, 0);
        v.advance();
        CHECK.due(1, "announce answers the held blocks", () -> v.announce(1));
        CHECK.due(1, "the epoch is announced", () -> v.reader(1, 1));
        CHECK.due(0, "it holds nothing any more", () -> v.reader(1, 2));
        CHECK.due(1, "it is inside still", () -> v.reader(1, 0));
        CHECK.due(0, "announce anew in the same epoch", () -> v.announce(1));
        v.hold(1, 0);
        CHECK.due(1, "releases too", () -> v.announce(1));
        v.advance();
        v.pass(2);
        v.expel(1);
        CHECK.noState("announce of an expelled reader", () -> v.announce(1));
    }

    private static void holdReleaseRead() {
        AppendedVolume v = new AppendedVolume();
        v.write(0, 10);
        v.write(23, 20);
        CHECK.noState("hold from outside", () -> v.hold(2, 0));
        CHECK.noState("comes before the missing block", () -> v.hold(2, 5));
        CHECK.noIndex("a wrong key comes before", () -> v.hold(2, 24));
        CHECK.noIndex("a wrong key below", () -> v.hold(2, -1));
        v.enter(2);
        CHECK.due(1, "hold answers the address", () -> v.hold(2, 23));
        CHECK.due(0, "another block", () -> v.hold(2, 0));
        CHECK.due(0, "twice is once", () -> v.hold(2, 0));
        CHECK.due(2, "blocks held", () -> v.reader(2, 2));
        CHECK.noElement("hold without a live block", () -> v.hold(2, 5));
        v.write(0, 11);
        CHECK.due(10, "a waiting block is held still", () -> v.read(2, 0));
        v.delete(23);
        CHECK.due(20, "so is a deleted one", () -> v.read(2, 1));
        CHECK.noElement("a block that it does not hold", () -> v.read(2, 2));
        CHECK.noElement("an unused block", () -> v.read(2, 51));
        CHECK.noElement("a block that another reader holds", () -> v.read(3, 0));
        CHECK.due(1, "one is held still", () -> v.release(2, 1));
        CHECK.noElement("it is released", () -> v.release(2, 1));
        CHECK.noElement("and cannot be read", () -> v.read(2, 1));
        CHECK.noElement("a reader outside holds nothing", () -> v.release(0, 0));
        v.write(3, 3);
        v.relocate(0);
        CHECK.due(10, "relocation leaves held blocks alone", () -> v.read(2, 0));
        CHECK.due(0, "the last one", () -> v.release(2, 0));
        for (int wrong : new int[] {-1, 4, 15, 20, 64, 160, Integer.MAX_VALUE, Integer.MIN_VALUE}) {
            CHECK.noIndex("release of block " + wrong, () -> v.release(2, wrong));
            CHECK.noIndex("read of block " + wrong, () -> v.read(2, wrong));
        }
    }

    private static void reader() {
        AppendedVolume v = new AppendedVolume();
        v.reset(4, 4, 3);
        v.write(0, 1);
        v.write(1, 2);
        v.enter(4);
        v.hold(4, 0);
        v.hold(4, 1);
        v.write(0, 3);
        v.pass(6);
        describe(v, "inside, not stalled", 4, 1, 0, 2, 0, 1);
        v.advance();
        describe(v, "stalled since now", 4, 1, 0, 2, 0, 1);
        v.pass(2);
        v.delete(1);
        describe(v, "stalled for two ticks", 4, 1, 0, 2, 2, 2);
        v.pass(1);
        v.expel(4);
        describe(v, "expelled", 4, 2, -1, 0, 0, 0);
        v.enter(4);
        describe(v, "inside again", 4, 1, 1, 0, 0, 0);
        v.leave(4);
        describe(v, "outside", 4, 0, -1, 0, 0, 0);
        for (int wrong : new int[] {-1, 5, Integer.MIN_VALUE, Integer.MAX_VALUE}) {
            CHECK.noArgument("reader what " + wrong, () -> v.reader(4, wrong));
            CHECK.noIndex("a wrong reader comes before what " + wrong, () -> v.reader(6, wrong));
        }
    }

    private static void describe(AppendedVolume v, String what, int reader, int... wants) {
        for (int i = 0; i < wants.length; i++) {
            int index = i;
            CHECK.due(wants[i], what + ": reader(" + reader + ", " + i + ")", () -> v.reader(reader, index));
        }
    }

    private static void blockers() {
        AppendedVolume v = new AppendedVolume();
        CHECK.due(0, "nobody is inside", v::blockers);
        v.enter(0);
        v.enter(3);
        v.enter(5);
        CHECK.due(0, "all have announced", v::blockers);
        v.advance();
        CHECK.due(0b101001, "all are behind", v::blockers);
        v.enter(1);
        v.announce(3);
        CHECK.due(0b100001, "two are behind", v::blockers);
        v.leave(0);
        CHECK.due(0b100000, "one is behind", v::blockers);
        v.pass(5);
        v.expel(5);
        CHECK.due(0, "an expelled reader is not inside", v::blockers);
    }

    private static void expel() {
        AppendedVolume v = new AppendedVolume();
        v.write(0, 1);
        v.pass(50);
        CHECK.noState("expel from outside", () -> v.expel(0));
        v.enter(0);
        v.hold(0, 0);
        v.pass(50);
        CHECK.noState("a reader that is not stalled", () -> v.expel(0));
        v.advance();
        v.pass(4);
        CHECK.noState("a stall below the patience", () -> v.expel(0));
        v.pass(1);
        CHECK.due(1, "a stall of the patience", () -> v.expel(0));
        CHECK.due(2, "it is expelled", () -> v.reader(0, 0));
        CHECK.due(0, "it holds nothing", () -> v.neededBy(0) & 0x3f);
        CHECK.noState("expel twice", () -> v.expel(0));
        CHECK.due(2, "the epoch can advance", v::advance);
        AppendedVolume w = new AppendedVolume();
        w.reset(3, 2, 100);
        w.enter(5);
        w.advance();
        w.pass(99);
        CHECK.noState("the greatest patience", () -> w.expel(5));
        w.pass(1);
        CHECK.due(0, "is over", () -> w.expel(5));
    }

    private static void reclaimableWithout() {
        AppendedVolume v = new AppendedVolume();
        v.reset(6, 4, 5);
        CHECK.due(0, "no blocks", () -> v.reclaimableWithout(-1));
        v.write(0, 1);
        v.write(0, 2);
        CHECK.due(1, "nobody inside: two advances", () -> v.reclaimableWithout(-1));
        CHECK.due(1, "a reader outside changes nothing", () -> v.reclaimableWithout(3));
        v.advance();
        v.write(0, 3);
        v.enter(0);
        CHECK.due(1, "one advance: the block of epoch 0", () -> v.reclaimableWithout(-1));
        CHECK.due(2, "two without reader 0", () -> v.reclaimableWithout(0));
        v.advance();
        v.write(0, 4);
        CHECK.due(1, "no advance: the block of epoch 0", () -> v.reclaimableWithout(-1));
        CHECK.due(3, "two advances without reader 0", () -> v.reclaimableWithout(0));
        v.enter(5);
        CHECK.due(2, "one without reader 0 but with reader 5", () -> v.reclaimableWithout(0));
        CHECK.due(1, "none without reader 5", () -> v.reclaimableWithout(5));
        CHECK.due(1, "none with both", () -> v.reclaimableWithout(-1));
        CHECK.due(2, "the epoch itself stays", () -> v.count(3));
        v.reclaim();
        CHECK.due(0, "a dead block is not counted", () -> v.reclaimableWithout(-1));
    }

    private static void costliestReader() {
        AppendedVolume v = new AppendedVolume();
        CHECK.due(-1, "nobody inside", v::costliestReader);
        v.write(0, 1);
        v.write(0, 2);
        v.enter(4);
        CHECK.due(4, "the only one", v::costliestReader);
        v.enter(2);
        CHECK.due(-1, "either one keeps all", v::costliestReader);
        v.advance();
        v.announce(4);
        v.write(0, 3);
        CHECK.due(2, "the stalled one", v::costliestReader);
        v.announce(2);
        CHECK.due(-1, "the block of epoch 0 waits for one advance only", v::costliestReader);
        v.leave(4);
        CHECK.due(2, "without it the other block too", v::costliestReader);
        AppendedVolume w = new AppendedVolume();
        w.enter(0);
        CHECK.due(-1, "no waiting blocks", w::costliestReader);
    }

    private static void wrongReaders() {
        AppendedVolume v = new AppendedVolume();
        v.write(0, 0);
        CHECK.noIndex("NONE is no reader that can enter", () -> v.enter(-1));
        for (int wrong : new int[] {-2, 6, 31, 32, Integer.MIN_VALUE, Integer.MAX_VALUE}) {
            CHECK.noIndex("enter " + wrong, () -> v.enter(wrong));
            CHECK.noIndex("leave " + wrong, () -> v.leave(wrong));
            CHECK.noIndex("announce " + wrong, () -> v.announce(wrong));
            CHECK.noIndex("hold " + wrong, () -> v.hold(wrong, 0));
            CHECK.noIndex("release " + wrong, () -> v.release(wrong, 0));
            CHECK.noIndex("read " + wrong, () -> v.read(wrong, 0));
            CHECK.noIndex("reader " + wrong, () -> v.reader(wrong, 0));
            CHECK.noIndex("expel " + wrong, () -> v.expel(wrong));
            CHECK.noIndex("reclaimableWithout " + wrong, () -> v.reclaimableWithout(wrong));
        }
    }
}
