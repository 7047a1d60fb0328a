/** Promise 47: undo; and section 5: which calls are changes. */
public final class UndoTest {
    private static final Check CHECK = new Check("UndoTest");

    public static void main(String[] args) {
        eachChange();
        theLatestEight();
        undoThenChange();
        noChanges();
        CHECK.end();
    }

    /** All that a caller can see of a volume. */
    private static String seen(AppendedVolume v) {
        StringBuilder text = new StringBuilder();
        for (int i = 0; i < 10; i++) {
            text.append(v.count(i)).append(' ');
        }
        for (int s = 0; s < v.count(0); s++) {
            for (int i = 0; i < 6; i++) {
                text.append(v.segment(s, i)).append(' ');
            }
            for (int b = 0; b < v.count(1); b++) {
                for (int i = 0; i < 5; i++) {
                    text.append(v.block(16 * s + b, i)).append(' ');
                }
                text.append(v.neededBy(16 * s + b)).append(' ');
            }
        }
        for (int r = 0; r < 6; r++) {
            for (int i = 0; i < 5; i++) {
                text.append(v.reader(r, i)).append(' ');
            }
        }
        for (int key = 0; key < 24; key++) {
            text.append(v.addressOf(key)).append(' ');
            for (int s = 0; s < 4; s++) {
                text.append(fromSnapshot(v, s, key)).append(' ');
            }
        }
        return text.toString();
    }

    private static String fromSnapshot(AppendedVolume v, int snapshot, int key) {
        try {
            return Integer.toString(v.getFrom(snapshot, key));
        } catch (RuntimeException e) {
            return e.getClass().getSimpleName();
        }
    }

    /** A volume in which every kind of change can succeed; eight calls of pass fill what undo remembers. */
    private static AppendedVolume busy() {
        AppendedVolume v = new AppendedVolume();
        v.reset(6, 4, 3);
        for (int key = 0; key < 6; key++) {
            v.write(key, key);
        }
        v.takeSnapshot(0);
        v.write(0, 10);
        v.delete(1);
        v.enter(0);
        v.enter(1);
        v.hold(0, 2);
        v.hold(0, 3);
        v.advance();
        v.leave(1);
        v.enter(1);
        v.write(3, 13);
        for (int i = 0; i < 8; i++) {
            v.pass(1);
        }
        return v;
    }

    private static void eachChange() {
        change("reset", v -> v.reset(10, 12, 9));
        change("write", v -> v.write(7, 70));
        change("write of a key that is there", v -> v.write(2, 70));
        change("delete", v -> v.delete(2));
        change("takeSnapshot", v -> v.takeSnapshot(3));
        change("dropSnapshot", v -> v.dropSnapshot(0));
        change("rollBack", v -> v.rollBack(0));
        change("enter", v -> v.enter(5));
        change("leave", v -> v.leave(0));
        change("announce", v -> v.announce(0));
        change("hold", v -> v.hold(0, 4));
        change("release", v -> v.release(0, 2));
        change("pass", v -> v.pass(1000));
        change("expel", v -> v.expel(0));
        change("relocate", v -> v.relocate(0));
        change("hold of a block that is held", v -> v.hold(0, 2));
        change("reclaim of nothing", AppendedVolume::reclaim);
        change("announce of the present epoch", v -> v.announce(1));
        AppendedVolume v = busy();
        v.leave(0);
        v.relocate(0);
        fillMemory(v);
        change("advance", v, AppendedVolume::advance);
        v.advance();
        v.announce(1);
        v.advance();
        fillMemory(v);
        change("reclaim", v, w -> {
            CHECK.due(4, "something is reclaimed", w::reclaim);
            CHECK.due(1, "and erased", () -> w.segment(0, 4));
        });
    }

    private interface Change {
        void on(AppendedVolume v);
    }

    private static void change(String what, Change change) {
        change(what, busy(), change);
    }

    /** The volume remembers eight changes already, so that one more leaves seven to undo. */
    private static void change(String what, AppendedVolume v, Change change) {
        String before = seen(v);
        change.on(v);
        CHECK.due(7, "undo of " + what, v::undo);
        CHECK.holds(before.equals(seen(v)), "undo of " + what + " does not bring back what was before");
        for (int left = 6; left >= 0; left--) {
            CHECK.due(left, "undo before " + what, v::undo);
        }
        CHECK.noState("all before " + what + " is undone", v::undo);
        fillMemory(v);
    }

    private static void fillMemory(AppendedVolume v) {
        for (int i = 0; i < 8; i++) {
            v.pass(1);
        }
    }

    private static void theLatestEight() {
        AppendedVolume v = new AppendedVolume();
        String[] states = new String[12];
        for (int i = 0; i < 12; i++) {
            states[i] = seen(v);
            v.write(i, i);
        }
        for (int i = 11; i >= 4; i--) {
            CHECK.due(i - 4, "undo of write " + i, v::undo);
            CHECK.holds(states[i].equals(seen(v)), "undo of write " + i + " brings back another volume");
        }
        CHECK.noState("the ninth change", v::undo);
        CHECK.due(3, "it stands", () -> v.get(3));
        AppendedVolume w = new AppendedVolume();
        w.write(0, 1);
        CHECK.due(0, "the only change", w::undo);
        CHECK.noState("no change is left", w::undo);
        CHECK.due(0, "the block is unused", () -> w.block(0, 0));
    }

    private static void undoThenChange() {
        AppendedVolume v = new AppendedVolume();
        for (int i = 1; i <= 10; i++) {
            v.pass(1);
        }
        CHECK.due(7, "back to 9", v::undo);
        CHECK.due(6, "back to 8", v::undo);
        CHECK.due(5, "back to 7", v::undo);
        CHECK.due(107, "a change behind undo", () -> v.pass(100));
        CHECK.due(5, "it is undone first", v::undo);
        CHECK.due(7, "to where it began", () -> v.count(4));
        for (int left = 4; left >= 0; left--) {
            CHECK.due(left, "then the older ones", v::undo);
        }
        CHECK.due(2, "up to the eighth of ten", () -> v.count(4));
        CHECK.noState("and no farther", v::undo);
        v.reset(3, 2, 1);
        CHECK.due(0, "reset can be undone", v::undo);
        CHECK.due(2, "with all it took away", () -> v.count(4));
        CHECK.due(4, "the segments too", () -> v.count(0));
    }

    /** Calls that ask or throw are no changes. */
    private static void noChanges() {
        AppendedVolume v = busy();
        v.delete(0);
        v.write(8, 8);
        String before = seen(v);
        asking(v);
        CHECK.noState("throwing", v::advance);
        CHECK.noIndex("throwing", () -> v.write(24, 0));
        CHECK.noElement("throwing", () -> v.delete(20));
        CHECK.noState("throwing", () -> v.takeSnapshot(0));
        CHECK.noState("throwing", () -> v.dropSnapshot(1));
        CHECK.noState("throwing", () -> v.rollBack(1));
        CHECK.noState("throwing", () -> v.enter(0));
        CHECK.noState("throwing", () -> v.leave(5));
        CHECK.noState("throwing", () -> v.announce(5));
        CHECK.noElement("throwing", () -> v.hold(0, 20));
        CHECK.noElement("throwing", () -> v.release(0, 0));
        CHECK.noState("throwing", () -> v.expel(1));
        CHECK.noArgument("throwing", () -> v.pass(0));
        CHECK.noState("throwing", () -> v.relocate(5));
        CHECK.holds(before.equals(seen(v)), "asking and throwing change something");
        CHECK.due(7, "the write is undone", v::undo);
        CHECK.due(-1, "indeed", () -> v.addressOf(8));
    }

    private static void asking(AppendedVolume v) {
        v.room();
        v.blockers();
        v.costliestReader();
        v.wouldErase();
        v.regainable();
        v.regainableNow();
        v.wearGap();
        v.get(2);
        v.versions(2);
        v.version(2, 0);
        v.getFrom(0, 0);
        v.changedSince(0);
        v.difference(0, 0);
        v.ownBlocks(0);
        v.read(0, 2);
        v.reclaimableWithout(0);
        v.blocks(0);
        v.meanAge(0, true);
        v.waiting(0);
        v.victim(0);
        v.relocationsFor(0, 1);
        CHECK.noElement("relocating in thought", () -> v.relocationsFor(0, 12));
        v.amplification(true);
    }
}
