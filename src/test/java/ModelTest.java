import java.util.Random;

/** All promises: long runs of calls, the same on the class and on the model, must answer the same. */
public final class ModelTest {
    private static final Check CHECK = new Check("ModelTest");
    private static final int RUNS = 400;
    private static final int CALLS = 512;

    /** Each method once for every time that it is drawn, with the ends of its arguments' ranges. */
    private static final String[] CHANGES = {
        "write 24 100", "write 24 100", "write 24 100", "write 24 100", "write 24 100", "write 24 100", "write 24 100",
        "delete 24", "takeSnapshot 4", "dropSnapshot 4", "rollBack 4", "enter 6", "leave 6", "leave 6", "announce 6",
        "announce 6", "announce 6", "hold 6 24", "hold 6 24", "hold 6 24", "hold 6 24", "release 6 B", "advance",
        "advance", "advance", "pass 8", "pass 8", "pass 1000", "expel 6", "expel 6", "reclaim", "reclaim",
        "relocate 10", "relocate 10", "undo",
    };
    private static final String[] QUESTIONS = {
        "get 24", "addressOf 24", "room", "versions 24", "version 24 5", "getFrom 4 24", "changedSince 4", "difference 4 4",
        "ownBlocks 4", "read 6 B", "reader 6 5", "reader 6 5", "blockers", "reclaimableWithout 6", "costliestReader",
        "count 10", "blocks 5", "segment 10 6", "meanAge 10 2", "block B 5", "neededBy B", "waiting 3", "wouldErase",
        "advancesToErase 10", "victim 3", "relocationsFor 3 20", "relocationsFor 3 120", "regainable", "regainableNow",
        "amplification 2", "wearGap",
    };

    private final Random random;
    private final AppendedVolume volume = new AppendedVolume();
    private final Model model = new Model();
    private final StringBuilder calls = new StringBuilder();
    private int segments = 4;
    private int blocks = 4;
    private int keys = 24;
    private int readers = 6;
    private int snapshots = 4;
    private int[] lastHold = {0, 0};
    private int made;

    private ModelTest(int seed) {
        random = new Random(seed);
    }

    public static void main(String[] args) {
        for (int seed = 0; seed < RUNS && CHECK.wrong() < 3; seed++) {
            new ModelTest(seed).run();
        }
        CHECK.end();
    }

    private void run() {
        keys = random.nextInt(3) == 0 ? 24 : 2 + random.nextInt(8);
        readers = 1 + random.nextInt(6);
        snapshots = 1 + random.nextInt(4);
        if (random.nextInt(8) != 0) {
            segments = random.nextInt(3) == 0 ? 3 + random.nextInt(8) : 3 + random.nextInt(3);
            blocks = random.nextInt(3) == 0 ? 2 + random.nextInt(11) : 2 + random.nextInt(3);
            if (!same("reset", segments, blocks, 1 + random.nextInt(6))) {
                return;
            }
        }
        int changesOfTen = 3 + random.nextInt(6);
        while (made < CALLS) {
            String[] from = random.nextInt(10) < changesOfTen ? CHANGES : QUESTIONS;
            boolean anew = random.nextInt(200) == 0;
            if (anew ? !same("reset", segments, blocks, 1 + random.nextInt(6)) : !draw(from[random.nextInt(from.length)])) {
                return;
            }
            if (random.nextInt(100) == 0 && !undoSeveral(2 + random.nextInt(8))) {
                return;
            }
        }
    }

    /** Single undos hardly ever reach the oldest change that can be undone. */
    private boolean undoSeveral(int times) {
        for (int i = 0; i < times && made < CALLS; i++) {
            if (!same("undo")) {
                return false;
            }
        }
        return true;
    }

    private boolean draw(String line) {
        String[] words = line.split(" ");
        int[] args = new int[words.length - 1];
        boolean useful = random.nextInt(30) != 0;
        for (int i = 0; i < args.length; i++) {
            args[i] = useful ? usual(words[i + 1]) : odd(words[i + 1]);
        }
        if (words[0].equals("pass") && useful) {
            args[0]++;
        }
        if ((words[0].equals("read") || words[0].equals("release")) && useful && random.nextBoolean()) {
            args = lastHold;
        }
        return same(words[0], args);
    }

    private int usual(String end) {
        switch (end) {
            case "B":
                return random.nextBoolean() ? lastHold[1] : 16 * random.nextInt(segments) + random.nextInt(blocks);
            case "10":
                return random.nextInt(segments);
            case "24":
                return random.nextInt(keys);
            case "6":
                return random.nextInt(readers);
            case "4":
                return random.nextInt(snapshots);
            default:
                return random.nextInt(Integer.parseInt(end));
        }
    }

    private int odd(String end) {
        int[] odds = {-1, -2, 0, 1, 1000, Integer.MIN_VALUE, Integer.MAX_VALUE, 16 * segments, blocks, segments};
        if (random.nextBoolean()) {
            return usual(end);
        }
        return random.nextBoolean() || end.equals("B") ? odds[random.nextInt(odds.length)] : Integer.parseInt(end);
    }

    private boolean same(String name, int... args) {
        made++;
        String got = Calls.answer(volume, name, args);
        String want = Calls.answer(model, name, args);
        calls.append('\n').append(name).append(java.util.Arrays.toString(args)).append(" = ").append(want);
        if (name.equals("hold") && want.matches("[0-9]+")) {
            lastHold = new int[] {args[0], Integer.parseInt(want)};
        }
        CHECK.holds(got.equals(want), "answered " + got + " to the last call of this run on a new object:" + calls);
        return got.equals(want);
    }
}
