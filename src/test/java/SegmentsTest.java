/** Promises 31 to 36: blocks, segment, meanAge, block, neededBy, waiting. */
public final class SegmentsTest {
    private static final Check CHECK = new Check("SegmentsTest");

    public static void main(String[] args) {
        blocks();
        segment();
        meanAge();
        block();
        neededBy();
        waiting();
        CHECK.end();
    }

    /** A volume with a block of each state in segment 0: 0 dead, 1 kept, 2 waiting, 3 live, and 16 open. */
    private static AppendedVolume mixed() {
        AppendedVolume v = new AppendedVolume();
        v.pass(1);
        v.write(0, 10);
        v.write(1, 20);
        v.delete(0);
        v.advance();
        v.advance();
        v.reclaim();
        v.takeSnapshot(2);
        v.delete(1);
        v.pass(2);
        v.write(2, 30);
        v.pass(3);
        v.write(3, 40);
        v.write(2, 50);
        return v;
    }

    private static void blocks() {
        AppendedVolume v = mixed();
        Check.Call[] all = {() -> v.blocks(0), () -> v.blocks(1), () -> v.blocks(2), () -> v.blocks(3), () -> v.blocks(4)};
        CHECK.dueAll("blocks", all, 11, 2, 1, 1, 1);
        for (int wrong : new int[] {-1, 5, Integer.MIN_VALUE, Integer.MAX_VALUE}) {
            CHECK.noArgument("blocks(" + wrong + ")", () -> v.blocks(wrong));
        }
        AppendedVolume w = new AppendedVolume();
        w.reset(10, 12, 5);
        CHECK.due(120, "blocks of the greatest volume", () -> w.blocks(0));
    }

    private static void segment() {
        AppendedVolume v = mixed();
        v.pass(4);
        describe(v, 0, 2, 2, 1, 1, 0, 4);
        describe(v, 1, 1, 1, 0, 0, 0, 4);
        describe(v, 2, 0, 0, 0, 0, 0, 0);
        for (int wrong : new int[] {-1, 4, Integer.MIN_VALUE, Integer.MAX_VALUE}) {
            CHECK.noIndex("segment " + wrong, () -> v.segment(wrong, 0));
            CHECK.noIndex("a wrong segment comes before a wrong what", () -> v.segment(wrong, 9));
        }
        for (int wrong : new int[] {-1, 6, Integer.MIN_VALUE, Integer.MAX_VALUE}) {
            CHECK.noArgument("segment what " + wrong, () -> v.segment(0, wrong));
        }
        v.relocate(0);
        CHECK.due(4, "relocated blocks keep their ticks", () -> v.segment(2, 5));
        v.advance();
        v.advance();
        v.dropSnapshot(2);
        v.reclaim();
        describe(v, 0, 0, 0, 0, 0, 1, 0);
        CHECK.due(1, "a block that was relocated as kept waits", () -> v.segment(2, 2));
    }

    private static void describe(AppendedVolume v, int segment, int... wants) {
        for (int i = 0; i < wants.length; i++) {
            int what = i;
            CHECK.due(wants[i], "segment(" + segment + ", " + i + ")", () -> v.segment(segment, what));
        }
    }

    private static void meanAge() {
        AppendedVolume v = mixed();
        CHECK.due(5, "ages 5 and 0: numerator", () -> v.meanAge(0, false));
        CHECK.due(2, "ages 5 and 0: denominator", () -> v.meanAge(0, true));
        CHECK.due(0, "age 0: numerator", () -> v.meanAge(1, false));
        CHECK.due(1, "age 0: denominator", () -> v.meanAge(1, true));
        v.pass(1);
        CHECK.due(7, "ages 6 and 1: numerator", () -> v.meanAge(0, false));
        v.write(5, 5);
        v.write(6, 6);
        v.pass(1);
        CHECK.due(4, "ages 2, 1 and 1: numerator", () -> v.meanAge(1, false));
        CHECK.due(3, "ages 2, 1 and 1: denominator", () -> v.meanAge(1, true));
        v.pass(3);
        v.write(7, 7);
        CHECK.due(13, "ages 5, 4, 4 and 0: numerator", () -> v.meanAge(1, false));
        CHECK.due(4, "ages 5, 4, 4 and 0: denominator", () -> v.meanAge(1, true));
        v.pass(1);
        CHECK.due(17, "ages 6, 5, 5 and 1: numerator", () -> v.meanAge(1, false));
        v.delete(7);
        CHECK.due(16, "ages 6, 5 and 5: numerator", () -> v.meanAge(1, false));
        v.delete(5);
        CHECK.due(11, "ages 6 and 5: numerator", () -> v.meanAge(1, false));
        v.pass(1000);
        v.delete(2);
        CHECK.due(1005, "a single block: numerator", () -> v.meanAge(1, false));
        v.delete(6);
        CHECK.noElement("waiting blocks have no mean age", () -> v.meanAge(1, false));
        CHECK.noElement("a free segment", () -> v.meanAge(3, true));
        for (int wrong : new int[] {-1, 4, Integer.MIN_VALUE, Integer.MAX_VALUE}) {
            CHECK.noIndex("meanAge of segment " + wrong, () -> v.meanAge(wrong, true));
        }
        AppendedVolume w = new AppendedVolume();
        for (int key = 0; key < 4; key++) {
            w.write(key, 0);
        }
        w.pass(1);
        w.relocate(0);
        w.write(4, 0);
        w.pass(6);
        CHECK.noElement("a segment that was relocated", () -> w.meanAge(0, false));
        CHECK.due(7, "28 / 4 in lowest terms: numerator", () -> w.meanAge(1, false));
        CHECK.due(1, "28 / 4 in lowest terms: denominator", () -> w.meanAge(1, true));
        w.write(5, 0);
        w.pass(1);
        w.write(6, 0);
        w.write(7, 0);
        CHECK.due(2, "8 / 4 in lowest terms: numerator", () -> w.meanAge(2, false));
        w.pass(1);
        w.delete(7);
        CHECK.due(11, "11 / 3 in lowest terms: numerator", () -> w.meanAge(2, false));
        CHECK.due(3, "11 / 3 in lowest terms: denominator", () -> w.meanAge(2, true));
    }

    private static void block() {
        AppendedVolume v = mixed();
        describeBlock(v, 0, 4, 0, 10, 1, -1);
        describeBlock(v, 1, 2, 1, 20, 1, -1);
        describeBlock(v, 2, 3, 2, 30, 3, 2);
        describeBlock(v, 3, 1, 3, 40, 6, -1);
        describeBlock(v, 16, 1, 2, 50, 6, -1);
        describeBlock(v, 17, 0, -1, -1, -1, -1);
        describeBlock(v, 51, 0, -1, -1, -1, -1);
        for (int wrong : new int[] {-1, 4, 15, 52, 64, 160, Integer.MIN_VALUE, Integer.MAX_VALUE}) {
            CHECK.noIndex("block " + wrong, () -> v.block(wrong, 0));
            CHECK.noIndex("a wrong block comes before a wrong what", () -> v.block(wrong, 7));
            CHECK.noIndex("neededBy " + wrong, () -> v.neededBy(wrong));
        }
        for (int wrong : new int[] {-1, 5, Integer.MIN_VALUE, Integer.MAX_VALUE}) {
            CHECK.noArgument("block what " + wrong, () -> v.block(0, wrong));
        }
        v.relocate(0);
        describeBlock(v, 32, 2, 1, 20, 1, -1);
        describeBlock(v, 33, 1, 3, 40, 6, -1);
        describeBlock(v, 1, 3, 1, 20, 1, 2);
        describeBlock(v, 0, 4, 0, 10, 1, -1);
        v.advance();
        v.advance();
        v.reclaim();
        describeBlock(v, 0, 0, -1, -1, -1, -1);
        describeBlock(v, 3, 0, -1, -1, -1, -1);
    }

    private static void describeBlock(AppendedVolume v, int address, int... wants) {
        for (int i = 0; i < wants.length; i++) {
            int what = i;
            CHECK.due(wants[i], "block(" + address + ", " + i + ")", () -> v.block(address, what));
        }
    }

    private static void neededBy() {
        AppendedVolume v = new AppendedVolume();
        CHECK.due(0, "an unused block", () -> v.neededBy(0));
        v.write(0, 1);
        CHECK.due(1 << 16, "a live block", () -> v.neededBy(0));
        v.enter(0);
        v.enter(5);
        v.hold(0, 0);
        v.hold(5, 0);
        v.takeSnapshot(0);
        v.takeSnapshot(3);
        CHECK.due(0b1_0000_1001_0010_0001, "all who need it", () -> v.neededBy(0));
        v.write(0, 2);
        CHECK.due(0b0_0000_1001_0010_0001, "it is not live any more", () -> v.neededBy(0));
        v.write(1, 1);
        v.write(1, 2);
        v.relocate(0);
        CHECK.due(0b0_0000_0000_0010_0001, "only the readers need the old place", () -> v.neededBy(0));
        CHECK.due(0b0_0000_1001_0000_0000, "the snapshots need the new one", () -> v.neededBy(16));
        v.leave(0);
        v.release(5, 0);
        CHECK.due(0, "nobody needs it", () -> v.neededBy(0));
    }

    private static void waiting() {
        AppendedVolume v = new AppendedVolume();
        for (int key = 0; key < 3; key++) {
            v.write(key, key);
        }
        v.delete(0);
        v.advance();
        v.delete(1);
        v.delete(2);
        amounts(v, "epoch 1", 0, 1, 2);
        v.advance();
        amounts(v, "epoch 2", 1, 2, 0);
        v.advance();
        v.advance();
        amounts(v, "epoch 4", 3, 0, 0);
        v.reclaim();
        amounts(v, "all are dead", 0, 0, 0);
        for (int wrong : new int[] {-1, 3, Integer.MIN_VALUE, Integer.MAX_VALUE}) {
            CHECK.noArgument("waiting(" + wrong + ")", () -> v.waiting(wrong));
        }
    }

    private static void amounts(AppendedVolume v, String what, int... wants) {
        for (int i = 0; i < wants.length; i++) {
            int advances = i;
            CHECK.due(wants[i], what + ": waiting(" + i + ")", () -> v.waiting(advances));
        }
    }
}
