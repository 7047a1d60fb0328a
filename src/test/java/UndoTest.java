/** Promise 47: undo; and section 5: which calls are changes. */
public final class UndoTest {
    private static final Check CHECK = new Check("UndoTest");

    /** A volume in which nearly every kind of change can succeed. */
    private static final String BUSY = "reset 6 4 3; write {0..5} 5; takeSnapshot 0; write 0 10; delete 1; enter {0 1}; "
        + "hold 0 {2 3}; advance; leave 1; enter 1; write 3 13";

    /** Eight changes fill what undo remembers. */
    private static final String FULL = "; 8 x pass 1";

    public static void main(String[] args) {
        eachChange();
        theLatestEight();
        undoThenChange();
        noChanges();
        CHECK.end();
    }

    private static void eachChange() {
        change(BUSY, "reset 10 12 9");
        change(BUSY, "write 7 70 = 32");
        change(BUSY, "write 2 70 = 32");
        change(BUSY, "delete 2 = 2");
        change(BUSY, "takeSnapshot 3 = 5");
        change(BUSY, "dropSnapshot 0 = 3");
        change(BUSY, "rollBack 0 = 3");
        change(BUSY, "enter 5 = 1");
        change(BUSY, "leave 0 = 2");
        change(BUSY, "announce 0 = 2");
        change(BUSY, "hold 0 4 = 16");
        change(BUSY, "release 0 2 = 1");
        change(BUSY, "pass 1000 = 1008");
        change(BUSY, "expel 0 = 2");
        change(BUSY, "relocate 0 = 4");
        change(BUSY, "hold 0 2 = 2");
        change(BUSY, "reclaim = 0");
        change(BUSY, "announce 1 = 0");
        String relocated = BUSY + "; leave 0; relocate 0 = 4";
        change(relocated, "advance = 2");
        change(relocated + "; advance; announce 1; advance; announce 1; advance", "reclaim = 4; segment 0 4 = 1");
    }

    /** The volume remembers eight changes already, so that one more leaves seven to undo. */
    private static void change(String run, String change) {
        String before = Script.run(CHECK, run + FULL).seen();
        Script script = Script.run(CHECK, run + FULL + "; " + change);
        boolean alters = !change.matches("hold 0 2 .*|reclaim = 0|announce 1 .*");
        CHECK.holds(before.equals(script.seen()) != alters, change + " does not do what it should");
        script.go("undo = 7");
        CHECK.holds(before.equals(script.seen()), "undo of " + change + " does not bring back what was before");
        script.go("undo = {6..0}; undo ! State");
    }

    private static void theLatestEight() {
        String[] states = new String[12];
        Script script = new Script(CHECK);
        for (int i = 0; i < 12; i++) {
            states[i] = script.seen();
            script.go("write " + i + " " + i);
        }
        for (int i = 11; i >= 4; i--) {
            script.go("undo = " + (i - 4));
            CHECK.holds(states[i].equals(script.seen()), "undo of write " + i + " brings back another volume");
        }
        script.go("undo ! State; get 3 = 3");
        Script.run(CHECK, "write 0 1; undo = 0; undo ! State; block 0 0 = 0");
    }

    private static void undoThenChange() {
        Script.run(CHECK, "10 x pass 1; undo = {7 6 5}; pass 100 = 107; undo = 5; count 4 = 7; undo = {4..0}; count 4 = 2; "
            + "undo ! State; reset 3 2 1; undo = 0; count 4 = 2; count 0 = 4");
    }

    /** Calls that ask or throw are no changes. */
    private static void noChanges() {
        Script script = Script.run(CHECK, BUSY + "; delete 0; write 8 8 = 32");
        String before = script.seen();
        script.go("room; blockers; costliestReader; wouldErase; regainable; regainableNow; wearGap; get 2; addressOf 2; "
            + "versions 2; version 2 0; getFrom 0 0; changedSince 0; difference 0 0; ownBlocks 0; read 0 2; reader 0 0; "
            + "reclaimableWithout 0; count 0; blocks 0; segment 0 0; meanAge 0 1; block 0 0; neededBy 0; waiting 0; "
            + "victim 0; relocationsFor 0 1; relocationsFor 0 12 ! Element; amplification 1");
        script.go("advance ! State; write 24 0 ! Index; delete 20 ! Element; takeSnapshot 0 ! State; dropSnapshot 1 ! State; "
            + "rollBack 1 ! State; enter 0 ! State; leave 5 ! State; announce 5 ! State; hold 0 20 ! Element; "
            + "release 0 0 ! Element; expel 1 ! State; pass 0 ! Argument; relocate 5 ! State");
        CHECK.holds(before.equals(script.seen()), "asking and throwing change something");
        script.go("undo = 7; addressOf 8 = -1");
    }
}
