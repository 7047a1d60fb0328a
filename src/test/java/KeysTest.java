/** Promises 3 to 9: write, delete, get, addressOf, room, versions, version. */
public final class KeysTest {
    private static final Check CHECK = new Check("KeysTest");

    public static void main(String[] args) {
        write();
        writeTakesTheLeastErasedSegment();
        delete();
        getAndAddressOf();
        room();
        versions();
        wrongKeys();
        CHECK.end();
    }

    private static void write() {
        AppendedVolume v = new AppendedVolume();
        v.reset(3, 2, 1);
        v.pass(4);
        CHECK.due(0, "the first write", () -> v.write(0, Integer.MIN_VALUE));
        CHECK.due(Integer.MIN_VALUE, "any int is a value", () -> v.block(0, 2));
        CHECK.due(4, "the tick of the block", () -> v.block(0, 3));
        CHECK.due(1, "the segment is open", () -> v.segment(0, 0));
        CHECK.due(0, "the first head", () -> v.count(8));
        CHECK.due(1, "the second write", () -> v.write(23, Integer.MAX_VALUE));
        CHECK.due(2, "the segment is full", () -> v.segment(0, 0));
        CHECK.due(-1, "a full segment is no head", () -> v.count(8));
        CHECK.due(16, "the third write", () -> v.write(0, 3));
        CHECK.due(3, "the old version waits", () -> v.block(0, 0));
        CHECK.due(0, "since this epoch", () -> v.block(0, 4));
        CHECK.due(1, "the new version is live", () -> v.block(16, 0));
        CHECK.due(3, "user writes", () -> v.count(6));
        CHECK.due(17, "the fourth write fills the open segment", () -> v.write(1, 4));
        CHECK.noState("the last free segment is kept", () -> v.write(1, 5));
        CHECK.due(4, "a write that throws does not count", () -> v.count(6));
        CHECK.due(17, "a write that throws changes nothing", () -> v.addressOf(1));
        CHECK.due(4, "nor does it replace the version", () -> v.get(1));
        CHECK.noIndex("a wrong key comes before the missing place", () -> v.write(24, 0));
        // an open first head is a place, even when only one segment is free
        AppendedVolume w = new AppendedVolume();
        w.reset(3, 2, 1);
        w.write(0, 0);
        w.write(1, 0);
        w.write(2, 0);
        w.takeSnapshot(1);
        CHECK.due(17, "the head has the last place", () -> w.write(2, 9));
        CHECK.due(2, "a block of a snapshot is kept", () -> w.block(16, 0));
    }

    private static void writeTakesTheLeastErasedSegment() {
        AppendedVolume v = new AppendedVolume();
        v.reset(3, 2, 1);
        eraseFirstSegment(v);
        CHECK.due(1, "segment 0 has one erase", () -> v.segment(0, 4));
        CHECK.due(16, "the free segment with the fewest erases is next", () -> v.write(0, 7));
        CHECK.due(17, "then its second block", () -> v.write(0, 8));
        CHECK.due(32, "then again the one with the fewest erases", () -> v.write(1, 1));
        CHECK.due(33, "then its second block", () -> v.write(1, 2));
        CHECK.noState("then segment 0 alone is free", () -> v.write(1, 3));
    }

    private static void eraseFirstSegment(AppendedVolume v) {
        v.write(0, 1);
        v.write(0, 2);
        v.delete(0);
        v.advance();
        v.advance();
        v.reclaim();
    }

    private static void delete() {
        AppendedVolume v = new AppendedVolume();
        v.write(5, 50);
        v.write(6, 60);
        v.takeSnapshot(2);
        v.write(5, 51);
        v.advance();
        CHECK.due(2, "delete answers the live block", () -> v.delete(5));
        CHECK.due(3, "it waits", () -> v.block(2, 0));
        CHECK.due(1, "since the present epoch", () -> v.block(2, 4));
        CHECK.due(-1, "the key is gone", () -> v.addressOf(5));
        CHECK.noElement("it cannot be deleted twice", () -> v.delete(5));
        CHECK.due(1, "a block of a snapshot", () -> v.delete(6));
        CHECK.due(2, "is kept", () -> v.block(1, 0));
        CHECK.due(-1, "and does not wait", () -> v.block(1, 4));
        CHECK.noElement("a key that was never written", () -> v.delete(7));
        CHECK.due(3, "a deleted key can be written anew", () -> v.write(5, 52));
    }

    private static void getAndAddressOf() {
        AppendedVolume v = new AppendedVolume();
        CHECK.noElement("get without a block", () -> v.get(0));
        CHECK.due(-1, "addressOf without a block", () -> v.addressOf(0));
        v.write(0, -7);
        v.write(23, 8);
        v.write(0, -9);
        CHECK.due(-9, "get of a key written twice", () -> v.get(0));
        CHECK.due(2, "addressOf of a key written twice", () -> v.addressOf(0));
        CHECK.due(8, "get of the last key", () -> v.get(23));
        CHECK.due(1, "addressOf of the last key", () -> v.addressOf(23));
        v.delete(0);
        CHECK.noElement("get of a deleted key", () -> v.get(0));
        CHECK.due(-1, "addressOf of a deleted key", () -> v.addressOf(0));
    }

    private static void room() {
        AppendedVolume v = new AppendedVolume();
        v.reset(4, 3, 5);
        for (int left = 9; left > 0; left--) {
            CHECK.due(left, "room before a write", v::room);
            v.write(left, left);
        }
        CHECK.due(0, "room without a place", v::room);
        CHECK.due(3, "although blocks are unused", () -> v.blocks(0));
        AppendedVolume w = new AppendedVolume();
        w.reset(3, 2, 5);
        for (int key = 0; key < 3; key++) {
            w.write(key, key);
        }
        CHECK.due(1, "room in the head alone", w::room);
        w.relocate(0);
        CHECK.due(1, "room in the head without a free segment", w::room);
        w.write(3, 3);
        CHECK.due(0, "no room without head and free segment", w::room);
    }

    private static void versions() {
        AppendedVolume v = new AppendedVolume();
        CHECK.due(0, "versions of a key that was never written", () -> v.versions(3));
        CHECK.noIndex("and none of them", () -> v.version(3, 0));
        v.write(3, 1);
        v.takeSnapshot(0);
        v.write(3, 2);
        v.write(4, 0);
        v.write(3, 3);
        v.write(3, 4);
        CHECK.due(4, "kept, waiting and live versions", () -> v.versions(3));
        Check.Call[] all = {() -> v.version(3, 0), () -> v.version(3, 1), () -> v.version(3, 2), () -> v.version(3, 3)};
        CHECK.dueAll("by ascending addresses", all, 0, 1, 3, 16);
        CHECK.noIndex("index behind the last", () -> v.version(3, 4));
        CHECK.noIndex("index before the first", () -> v.version(3, -1));
        CHECK.noIndex("the greatest index", () -> v.version(3, Integer.MAX_VALUE));
        CHECK.noIndex("the least index", () -> v.version(3, Integer.MIN_VALUE));
        v.advance();
        v.advance();
        v.reclaim();
        CHECK.due(2, "dead blocks do not count", () -> v.versions(3));
        CHECK.due(16, "the second one that is left", () -> v.version(3, 1));
        CHECK.due(1, "the other key", () -> v.versions(4));
        CHECK.due(2, "its version", () -> v.version(4, 0));
        v.relocate(0);
        CHECK.due(3, "the old place of a relocated block still waits", () -> v.versions(3));
        CHECK.due(32, "the new place", () -> v.version(3, 2));
    }

    private static void wrongKeys() {
        AppendedVolume v = new AppendedVolume();
        v.write(0, 0);
        for (int wrong : new int[] {-1, 24, Integer.MIN_VALUE, Integer.MAX_VALUE}) {
            CHECK.noIndex("write of key " + wrong, () -> v.write(wrong, 0));
            CHECK.noIndex("delete of key " + wrong, () -> v.delete(wrong));
            CHECK.noIndex("get of key " + wrong, () -> v.get(wrong));
            CHECK.noIndex("addressOf key " + wrong, () -> v.addressOf(wrong));
            CHECK.noIndex("versions of key " + wrong, () -> v.versions(wrong));
            CHECK.noIndex("version of key " + wrong, () -> v.version(wrong, 0));
        }
    }
}
