/** Promises 28 to 30: advance, pass, count. */
public final class EpochsTest {
    private static final Check CHECK = new Check("EpochsTest");

    public static void main(String[] args) {
        advance();
        pass();
        passToTheEnd();
        count();
        CHECK.end();
    }

    private static void advance() {
        AppendedVolume v = new AppendedVolume();
        v.pass(3);
        CHECK.due(1, "advance without readers", v::advance);
        CHECK.due(3, "the new epoch begins now", () -> v.count(5));
        v.enter(0);
        v.enter(1);
        CHECK.due(2, "all have announced", v::advance);
        v.announce(0);
        CHECK.noState("reader 1 is behind", v::advance);
        CHECK.due(2, "the epoch stays", () -> v.count(3));
        v.announce(1);
        CHECK.due(3, "it has announced", v::advance);
    }

    private static void pass() {
        AppendedVolume v = new AppendedVolume();
        CHECK.due(1, "one tick", () -> v.pass(1));
        CHECK.due(1001, "many ticks", () -> v.pass(1000));
        for (int wrong : new int[] {0, -1, 1001, Integer.MIN_VALUE, Integer.MAX_VALUE}) {
            CHECK.noArgument("pass(" + wrong + ")", () -> v.pass(wrong));
        }
        CHECK.due(1001, "the tick stays", () -> v.count(4));
        CHECK.due(0, "the epoch began before", () -> v.count(5));
    }

    /** More calls than an object need stand, so that the end of time is seen all the same. */
    private static void passToTheEnd() {
        AppendedVolume v = new AppendedVolume();
        for (int i = 0; i < 999; i++) {
            v.pass(1000);
        }
        v.pass(999);
        CHECK.noState("beyond the last tick", () -> v.pass(2));
        CHECK.due(1000000, "the last tick", () -> v.pass(1));
        CHECK.noState("no tick behind it", () -> v.pass(1));
        CHECK.noArgument("a wrong number comes first", () -> v.pass(0));
    }

    private static void count() {
        AppendedVolume v = new AppendedVolume();
        v.reset(5, 3, 7);
        v.write(0, 1);
        v.write(1, 2);
        v.write(2, 3);
        v.write(0, 4);
        v.pass(9);
        v.advance();
        v.pass(2);
        v.relocate(0);
        int[] wants = {5, 3, 7, 1, 11, 9, 4, 2, 1, 2};
        for (int i = 0; i < wants.length; i++) {
            int what = i;
            CHECK.due(wants[i], "count(" + i + ")", () -> v.count(what));
        }
        for (int wrong : new int[] {-1, 10, Integer.MIN_VALUE, Integer.MAX_VALUE}) {
            CHECK.noArgument("count(" + wrong + ")", () -> v.count(wrong));
        }
    }
}
