import java.util.ArrayList;
import java.util.HashMap;
import java.util.HashSet;
import java.util.List;
import java.util.Map;
import java.util.NoSuchElementException;
import java.util.Set;
import java.util.TreeMap;

/**
 * The document once more, written in another way, to compare the class with: blocks are objects whose
 * states follow from who needs them, and undo and all that happens in thought begin with a second
 * model on which the same changes are made again.
 */
public final class Model {
    private static final int NONE = -1;

    private static final class Block {
        final int key;
        final int value;
        final int tick;
        int since = NONE;
        boolean dead;

        Block(int key, int value, int tick) {
            this.key = key;
            this.value = value;
            this.tick = tick;
        }
    }

    private static final class Segment {
        final List<Block> blocks = new ArrayList<>();
        int erases;
    }

    private static final class Reader {
        int where;
        int announced = NONE;
        Set<Block> held = new HashSet<>();
    }

    private record Change(String name, int[] args) {
    }

    private final List<Change> changes = new ArrayList<>();
    private int undoable;

    private List<Segment> segments;
    private int size;
    private int patience;
    private Segment first;
    private Segment second;
    private int epoch;
    private int tick;
    private int epochTick;
    private int written;
    private int moved;
    private Map<Integer, Block> live;
    private List<Map<Integer, Block>> snapshots;
    private List<Reader> readers;

    public Model() {
        begin(4, 4, 5);
    }

    private void begin(int count, int blocks, int newPatience) {
        segments = new ArrayList<>();
        for (int i = 0; i < count; i++) {
            segments.add(new Segment());
        }
        size = blocks;
        patience = newPatience;
        first = null;
        second = null;
        epoch = 0;
        tick = 0;
        epochTick = 0;
        written = 0;
        moved = 0;
        live = new TreeMap<>();
        snapshots = new ArrayList<>();
        for (int i = 0; i < 4; i++) {
            snapshots.add(null);
        }
        readers = new ArrayList<>();
        for (int i = 0; i < 6; i++) {
            readers.add(new Reader());
        }
    }

    // ---- changes: noted, so that they can be made again

    private int changed(int answer, String name, int... args) {
        for (Segment segment : segments) {
            for (Block block : segment.blocks) {
                if (!needed(block) && !block.dead && block.since == NONE) {
                    block.since = epoch;
                }
            }
        }
        changes.add(new Change(name, args));
        undoable = Math.min(8, undoable + 1);
        return answer;
    }

    private Model again(int count) {
        Model other = new Model();
        for (Change change : changes.subList(0, count)) {
            Calls.answer(other, change.name, change.args);
        }
        return other;
    }

    private Model inThought() {
        return again(changes.size());
    }

    public int undo() {
        state(undoable > 0);
        Model before = again(changes.size() - 1);
        segments = before.segments;
        size = before.size;
        patience = before.patience;
        first = before.first;
        second = before.second;
        epoch = before.epoch;
        tick = before.tick;
        epochTick = before.epochTick;
        written = before.written;
        moved = before.moved;
        live = before.live;
        snapshots = before.snapshots;
        readers = before.readers;
        changes.remove(changes.size() - 1);
        undoable--;
        return undoable;
    }

    // ---- what follows from the rest

    private boolean needed(Block block) {
        return live.get(block.key) == block || keepers(block) > 0;
    }

    private int keepers(Block block) {
        int found = 0;
        for (Map<Integer, Block> snapshot : snapshots) {
            if (snapshot != null && snapshot.get(block.key) == block) {
                found++;
            }
        }
        return found;
    }

    private int stateOf(Block block) {
        if (block == null) {
            return 0;
        }
        if (live.get(block.key) == block) {
            return 1;
        }
        if (keepers(block) > 0) {
            return 2;
        }
        return block.dead ? 4 : 3;
    }

    private Block at(int address) {
        Segment segment = segments.get(address / 16);
        return address % 16 < segment.blocks.size() ? segment.blocks.get(address % 16) : null;
    }

    private List<Integer> addresses() {
        List<Integer> all = new ArrayList<>();
        for (int s = 0; s < segments.size(); s++) {
            for (int b = 0; b < size; b++) {
                all.add(16 * s + b);
            }
        }
        return all;
    }

    private int find(Block block) {
        for (int address : addresses()) {
            if (block != null && at(address) == block) {
                return address;
            }
        }
        return NONE;
    }

    private int kind(Segment segment) {
        return segment.blocks.isEmpty() ? 0 : segment.blocks.size() < size ? 1 : 2;
    }

    private int number(Segment segment, int state) {
        int found = state == 0 ? size - segment.blocks.size() : 0;
        for (Block block : segment.blocks) {
            if (stateOf(block) == state) {
                found++;
            }
        }
        return found;
    }

    private int use(Segment segment) {
        return number(segment, 1) + number(segment, 2);
    }

    private int age(Segment segment) {
        return segment.blocks.isEmpty() ? 0 : tick - segment.blocks.stream().mapToInt(b -> b.tick).max().getAsInt();
    }

    private List<Segment> free() {
        return segments.stream().filter(s -> s.blocks.isEmpty()).toList();
    }

    private boolean ripe(Block block) {
        return stateOf(block) == 3 && epoch >= block.since + 2;
    }

    private int ripe() {
        return (int) segments.stream().flatMap(s -> s.blocks.stream()).filter(this::ripe).count();
    }

    private boolean stalled(Reader reader) {
        return reader.where == 1 && reader.announced != epoch;
    }

    private void takeOut(Reader reader) {
        reader.where = 0;
        reader.announced = NONE;
        reader.held.clear();
    }

    private Segment append(Segment head, Block block) {
        Segment segment = head;
        if (segment == null) {
            for (Segment other : free()) {
                if (segment == null || other.erases < segment.erases) {
                    segment = other;
                }
            }
        }
        segment.blocks.add(block);
        return segment.blocks.size() == size ? null : segment;
    }

    // ---- exceptions

    private static void index(boolean right) {
        if (!right) {
            throw new IndexOutOfBoundsException();
        }
    }

    private static void state(boolean right) {
        if (!right) {
            throw new IllegalStateException();
        }
    }

    private static void argument(boolean right) {
        if (!right) {
            throw new IllegalArgumentException();
        }
    }

    private static void element(boolean right) {
        if (!right) {
            throw new NoSuchElementException();
        }
    }

    private static boolean in(int number, int end) {
        return 0 <= number && number < end;
    }

    private void block(int address) {
        index(addresses().contains(address));
    }

    private void taken(int snapshot) {
        index(in(snapshot, 4));
        state(snapshots.get(snapshot) != null);
    }

    // ---- the face

    public void reset(int count, int blocks, int newPatience) {
        argument(count >= 3 && count <= 10 && blocks >= 2 && blocks <= 12 && newPatience >= 1 && newPatience <= 100);
        begin(count, blocks, newPatience);
        changed(0, "reset", count, blocks, newPatience);
    }

    public int write(int key, int value) {
        index(in(key, 24));
        state(first != null || free().size() >= 2);
        Block block = new Block(key, value, tick);
        first = append(first, block);
        live.put(key, block);
        written++;
        return changed(find(block), "write", key, value);
    }

    public int delete(int key) {
        index(in(key, 24));
        element(live.containsKey(key));
        return changed(find(live.remove(key)), "delete", key);
    }

    public int get(int key) {
        index(in(key, 24));
        element(live.containsKey(key));
        return live.get(key).value;
    }

    public int addressOf(int key) {
        index(in(key, 24));
        return find(live.get(key));
    }

    public int room() {
        Model thought = inThought();
        int writes = 0;
        try {
            while (writes < 1000) {
                thought.write(0, 0);
                writes++;
            }
        } catch (IllegalStateException e) {
            return writes;
        }
        return NONE;
    }

    private List<Integer> versionsOf(int key) {
        return addresses().stream().filter(a -> at(a) != null && at(a).key == key && !at(a).dead).toList();
    }

    public int versions(int key) {
        index(in(key, 24));
        return versionsOf(key).size();
    }

    public int version(int key, int at) {
        index(in(key, 24) && in(at, versionsOf(key).size()));
        return versionsOf(key).get(at);
    }

    public int takeSnapshot(int snapshot) {
        index(in(snapshot, 4));
        state(snapshots.get(snapshot) == null);
        snapshots.set(snapshot, new HashMap<>(live));
        return changed(live.size(), "takeSnapshot", snapshot);
    }

    public int dropSnapshot(int snapshot) {
        taken(snapshot);
        int before = blocks(3);
        snapshots.set(snapshot, null);
        return changed(blocks(3) - before, "dropSnapshot", snapshot);
    }

    public int rollBack(int snapshot) {
        int answer = changedSince(snapshot);
        live = new TreeMap<>(snapshots.get(snapshot));
        return changed(answer, "rollBack", snapshot);
    }

    public int getFrom(int snapshot, int key) {
        index(in(snapshot, 4) && in(key, 24));
        taken(snapshot);
        element(snapshots.get(snapshot).containsKey(key));
        return snapshots.get(snapshot).get(key).value;
    }

    private static int differing(Map<Integer, Block> one, Map<Integer, Block> other) {
        Set<Integer> keys = new HashSet<>(one.keySet());
        keys.addAll(other.keySet());
        keys.removeIf(key -> one.get(key) == other.get(key));
        return keys.size();
    }

    public int changedSince(int snapshot) {
        taken(snapshot);
        return differing(snapshots.get(snapshot), live);
    }

    public int difference(int snapshot, int other) {
        index(in(snapshot, 4) && in(other, 4));
        taken(snapshot);
        taken(other);
        return differing(snapshots.get(snapshot), snapshots.get(other));
    }

    public int ownBlocks(int snapshot) {
        return inThought().dropSnapshot(snapshot);
    }

    public int enter(int r) {
        index(in(r, 6));
        state(readers.get(r).where != 1);
        readers.get(r).where = 1;
        readers.get(r).announced = epoch;
        return changed(epoch, "enter", r);
    }

    public int leave(int r) {
        index(in(r, 6));
        state(readers.get(r).where != 0);
        int held = readers.get(r).held.size();
        takeOut(readers.get(r));
        return changed(held, "leave", r);
    }

    public int announce(int r) {
        index(in(r, 6));
        state(readers.get(r).where == 1);
        int held = readers.get(r).held.size();
        readers.get(r).held.clear();
        readers.get(r).announced = epoch;
        return changed(held, "announce", r);
    }

    public int hold(int r, int key) {
        index(in(r, 6) && in(key, 24));
        state(readers.get(r).where == 1);
        element(live.containsKey(key));
        readers.get(r).held.add(live.get(key));
        return changed(addressOf(key), "hold", r, key);
    }

    public int release(int r, int address) {
        read(r, address);
        readers.get(r).held.remove(at(address));
        return changed(readers.get(r).held.size(), "release", r, address);
    }

    public int read(int r, int address) {
        index(in(r, 6));
        block(address);
        element(readers.get(r).held.contains(at(address)));
        return at(address).value;
    }

    public int reader(int r, int what) {
        index(in(r, 6));
        argument(in(what, 5));
        Reader reader = readers.get(r);
        int waiting = (int) reader.held.stream().filter(b -> stateOf(b) == 3).count();
        int stall = stalled(reader) ? tick - epochTick : 0;
        return new int[] {reader.where, reader.announced, reader.held.size(), stall, waiting}[what];
    }

    public int blockers() {
        int mask = 0;
        for (int r = 0; r < 6; r++) {
            mask += stalled(readers.get(r)) ? 1 << r : 0;
        }
        return mask;
    }

    public int expel(int r) {
        index(in(r, 6));
        state(readers.get(r).where == 1 && reader(r, 3) >= patience);
        int held = readers.get(r).held.size();
        takeOut(readers.get(r));
        readers.get(r).where = 2;
        return changed(held, "expel", r);
    }

    public int reclaimableWithout(int r) {
        index(r == NONE || in(r, 6));
        Model thought = inThought();
        if (r != NONE) {
            thought.takeOut(thought.readers.get(r));
        }
        try {
            thought.advance();
            thought.advance();
        } catch (IllegalStateException e) {
            return thought.ripe();
        }
        return thought.ripe();
    }

    public int costliestReader() {
        int best = NONE;
        for (int r = 0; r < 6; r++) {
            if (reclaimableWithout(r) > reclaimableWithout(best)) {
                best = r;
            }
        }
        return best;
    }

    public int advance() {
        state(blockers() == 0);
        epoch++;
        epochTick = tick;
        return changed(epoch, "advance");
    }

    public int pass(int ticks) {
        argument(ticks >= 1 && ticks <= 1000);
        state(tick + ticks <= 1000000);
        tick += ticks;
        return changed(tick, "pass", ticks);
    }

    public int count(int what) {
        argument(in(what, 10));
        return new int[] {segments.size(), size, patience, epoch, tick, epochTick, written, moved,
            segments.indexOf(first), segments.indexOf(second)}[what];
    }

    public int blocks(int state) {
        argument(in(state, 5));
        return segments.stream().mapToInt(s -> number(s, state)).sum();
    }

    public int segment(int s, int what) {
        index(in(s, segments.size()));
        argument(in(what, 6));
        Segment segment = segments.get(s);
        return new int[] {kind(segment), use(segment), number(segment, 3), number(segment, 4), segment.erases,
            age(segment)}[what];
    }

    public int meanAge(int s, boolean denominator) {
        index(in(s, segments.size()));
        Segment segment = segments.get(s);
        element(use(segment) > 0);
        int sum = segment.blocks.stream().filter(this::needed).mapToInt(b -> tick - b.tick).sum();
        return lowest(sum, use(segment), denominator);
    }

    private static int lowest(int numerator, int denominator, boolean wantDenominator) {
        int divisor = denominator;
        while (numerator % divisor != 0 || denominator % divisor != 0) {
            divisor--;
        }
        return (wantDenominator ? denominator : numerator) / divisor;
    }

    public int block(int address, int what) {
        block(address);
        argument(in(what, 5));
        Block b = at(address);
        if (b == null) {
            return what == 0 ? 0 : NONE;
        }
        return new int[] {stateOf(b), b.key, b.value, b.tick, stateOf(b) == 3 ? b.since : NONE}[what];
    }

    public int neededBy(int address) {
        block(address);
        Block b = at(address);
        int mask = stateOf(b) == 1 ? 1 << 16 : 0;
        for (int r = 0; r < 6; r++) {
            mask += readers.get(r).held.contains(b) ? 1 << r : 0;
        }
        for (int s = 0; s < 4; s++) {
            mask += snapshots.get(s) != null && snapshots.get(s).containsValue(b) ? 256 << s : 0;
        }
        return mask;
    }

    public int waiting(int advances) {
        argument(in(advances, 3));
        int found = 0;
        for (int address : addresses()) {
            if (stateOf(at(address)) == 3 && Math.max(0, at(address).since + 2 - epoch) == advances) {
                found++;
            }
        }
        return found;
    }

    public int reclaim() {
        int before = ripe();
        for (Segment segment : segments) {
            segment.blocks.forEach(b -> b.dead |= ripe(b));
            if (number(segment, 4) == size) {
                segment.blocks.clear();
                segment.erases++;
            }
        }
        return changed(before, "reclaim");
    }

    public int wouldErase() {
        Model thought = inThought();
        thought.reclaim();
        return thought.free().size() - free().size();
    }

    public int advancesToErase(int s) {
        index(in(s, segments.size()));
        element(kind(segments.get(s)) == 2 && use(segments.get(s)) == 0);
        Model thought = inThought();
        for (int advances = 0; advances <= 2; advances++) {
            thought.reclaim();
            if (thought.kind(thought.segments.get(s)) == 0) {
                return advances;
            }
            thought.epoch++;
        }
        throw new ArithmeticException("the model is wrong");
    }

    public int relocate(int s) {
        index(in(s, segments.size()));
        Segment segment = segments.get(s);
        state(kind(segment) == 2);
        int places = (second == null ? 0 : size - second.blocks.size()) + size * free().size();
        state(use(segment) <= places);
        int before = moved;
        for (Block old : segment.blocks) {
            if (needed(old)) {
                Block block = new Block(old.key, old.value, old.tick);
                second = append(second, block);
                live.replace(old.key, old, block);
                for (Map<Integer, Block> snapshot : snapshots) {
                    if (snapshot != null) {
                        snapshot.replace(old.key, old, block);
                    }
                }
                moved++;
            }
        }
        return changed(moved - before, "relocate", s);
    }

    private double worth(int rule, Segment segment) {
        switch (rule) {
            case 0:
                return -use(segment);
            case 1:
                return (double) ((size - use(segment)) * age(segment)) / (size + use(segment));
            default:
                return age(segment);
        }
    }

    public int victim(int rule) {
        argument(in(rule, 3));
        int best = NONE;
        for (int s = 0; s < segments.size(); s++) {
            Segment segment = segments.get(s);
            if (kind(segment) == 2 && use(segment) < size
                    && (best == NONE || worth(rule, segment) > worth(rule, segments.get(best)) + 1e-9)) {
                best = s;
            }
        }
        element(best != NONE);
        return best;
    }

    public int relocationsFor(int rule, int writes) {
        argument(in(rule, 3) && writes >= 1 && writes <= 120);
        Model thought = inThought();
        thought.readers.forEach(thought::takeOut);
        try {
            for (int relocations = 0; ; relocations++) {
                thought.advance();
                thought.advance();
                thought.reclaim();
                int places = thought.first == null ? 0 : size - thought.first.blocks.size();
                places += size * Math.max(0, thought.free().size() - 1);
                if (places >= writes) {
                    return relocations;
                }
                element(relocations < 20);
                thought.relocate(thought.victim(rule));
            }
        } catch (IllegalStateException e) {
            throw new NoSuchElementException();
        }
    }

    public int regainable() {
        return segments.size() * size - blocks(1) - blocks(2);
    }

    public int regainableNow() {
        Model thought = inThought();
        thought.readers.forEach(thought::takeOut);
        thought.advance();
        thought.advance();
        thought.reclaim();
        return thought.blocks(0) - blocks(0);
    }

    public int amplification(boolean denominator) {
        element(written > 0);
        return lowest(written + moved, written, denominator);
    }

    public int wearGap() {
        return segments.stream().mapToInt(s -> s.erases).max().getAsInt()
                - segments.stream().mapToInt(s -> s.erases).min().getAsInt();
    }
}
