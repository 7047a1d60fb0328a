/** Promises 1 and 2: a new object, and reset. */
public final class NewVolumeTest {
    private static final Check CHECK = new Check("NewVolumeTest");

    public static void main(String[] args) {
        newObject();
        resetBeginsAnew();
        resetRanges();
        CHECK.end();
    }

    private static void newObject() {
        AppendedVolume v = new AppendedVolume();
        CHECK.due(-1, "NONE", () -> AppendedVolume.NONE);
        empty("a new object", v, 4, 4, 5);
        CHECK.noState("undo of a new object", v::undo);
    }

    /** Says that nothing has happened to a volume yet. */
    private static void empty(String what, AppendedVolume v, int segments, int blocks, int patience) {
        int[] counts = {segments, blocks, patience, 0, 0, 0, 0, 0, -1, -1};
        for (int i = 0; i < counts.length; i++) {
            int index = i;
            CHECK.due(counts[i], what + ": count(" + i + ")", () -> v.count(index));
        }
        CHECK.due((segments - 1) * blocks, what + ": room", v::room);
        CHECK.due(segments * blocks, what + ": unused blocks", () -> v.blocks(0));
        for (int s = 0; s < segments; s++) {
            int segment = s;
            for (int i = 0; i <= 5; i++) {
                int index = i;
                CHECK.due(0, what + ": segment(" + s + ", " + i + ")", () -> v.segment(segment, index));
            }
            CHECK.due(0, what + ": first block of " + s, () -> v.block(16 * segment, 0));
            CHECK.due(0, what + ": last block of " + s, () -> v.block(16 * segment + blocks - 1, 0));
            CHECK.noIndex(what + ": block behind " + s, () -> v.block(16 * segment + blocks, 0));
        }
        CHECK.noIndex(what + ": segment behind the last", () -> v.segment(segments, 0));
        for (int r = 0; r < 6; r++) {
            int reader = r;
            CHECK.due(0, what + ": reader " + r + " is outside", () -> v.reader(reader, 0));
            CHECK.due(-1, what + ": reader " + r + " announced", () -> v.reader(reader, 1));
            CHECK.due(0, what + ": reader " + r + " holds", () -> v.reader(reader, 2));
        }
        for (int s = 0; s < 4; s++) {
            int snapshot = s;
            CHECK.noState(what + ": snapshot " + s + " is not taken", () -> v.changedSince(snapshot));
        }
        for (int k = 0; k < 24; k++) {
            int key = k;
            CHECK.due(-1, what + ": key " + k, () -> v.addressOf(key));
        }
    }

    private static void resetBeginsAnew() {
        AppendedVolume v = new AppendedVolume();
        v.reset(3, 2, 1);
        v.write(0, 1);
        v.takeSnapshot(0);
        v.enter(2);
        v.hold(2, 0);
        v.write(0, 2);
        v.write(0, 3);
        v.relocate(0);
        v.advance();
        v.pass(7);
        v.expel(2);
        v.advance();
        v.advance();
        v.reclaim();
        CHECK.due(1, "segment 0 was erased once", () -> v.segment(0, 4));
        v.reset(3, 2, 100);
        empty("reset after use", v, 3, 2, 100);
        v.reset(10, 12, 1);
        empty("the greatest volume", v, 10, 12, 1);
        v.write(1, 1);
        v.write(2, 2);
        v.enter(3);
        v.hold(3, 2);
        v.reset(4, 4, 5);
        empty("reset as new", v, 4, 4, 5);
        CHECK.due(0, "no reader holds a block of the old volume", () -> v.neededBy(1));
        CHECK.due(0, "the first write of the new volume", () -> v.write(1, 1));
        CHECK.due(1 << 16, "its block is needed by the key alone", () -> v.neededBy(0));
    }

    private static void resetRanges() {
        AppendedVolume v = new AppendedVolume();
        v.write(3, 33);
        int[][] wrong = {
            {2, 4, 5}, {11, 4, 5}, {-1, 4, 5}, {Integer.MAX_VALUE, 4, 5}, {Integer.MIN_VALUE, 4, 5},
            {4, 1, 5}, {4, 13, 5}, {4, -1, 5}, {4, Integer.MAX_VALUE, 5}, {4, Integer.MIN_VALUE, 5},
            {4, 4, 0}, {4, 4, 101}, {4, 4, -1}, {4, 4, Integer.MAX_VALUE}, {4, 4, Integer.MIN_VALUE},
        };
        for (int[] r : wrong) {
            CHECK.noArgument("reset(" + r[0] + ", " + r[1] + ", " + r[2] + ")", () -> {
                v.reset(r[0], r[1], r[2]);
                return 0;
            });
        }
        CHECK.due(33, "a reset that throws changes nothing", () -> v.get(3));
        CHECK.due(0, "a reset that throws is no change", v::undo);
    }
}
