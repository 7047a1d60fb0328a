import java.util.Arrays;
import java.util.NoSuchElementException;

/**
 * An append-only volume that regains space when all snapshots and readers have passed.
 *
 * <p>The methods of this class test the arguments, throw what the document names, and save the volume
 * for undo; the classes inside do the work and take only what has been tested.
 */
public final class AppendedVolume {
    public static final int NONE = -1;

    private static final int KEYS = 24;
    private static final int READERS = 6;
    private static final int SNAPSHOTS = 4;
    private static final int CHANGES_KEPT = 8;

    private static final int LEAST_SEGMENTS = 3;
    private static final int MOST_SEGMENTS = 10;
    private static final int LEAST_BLOCKS = 2;
    private static final int MOST_BLOCKS = 12;
    private static final int MOST_PATIENCE = 100;
    private static final int MOST_TICKS = 1000;
    private static final int LAST_TICK = 1000000;
    private static final int MOST_WRITES = 120;
    private static final int MOST_RELOCATIONS = 20;
    private static final int EPOCHS_TO_WAIT = 2;
    private static final int FRACTION_STEPS = 100;

    private static final int STRIDE = 16;
    private static final int ADDRESSES = MOST_SEGMENTS * STRIDE;

    private static final int UNUSED = 0;
    private static final int LIVE = 1;
    private static final int KEPT = 2;
    private static final int WAITING = 3;
    private static final int DEAD = 4;

    private static final int FREE = 0;
    private static final int OPEN = 1;
    private static final int FULL = 2;

    private static final int OUTSIDE = 0;
    private static final int INSIDE = 1;
    private static final int EXPELLED = 2;

    private static final int FIRST_HEAD = 0;
    private static final int SECOND_HEAD = 1;
    private static final int HEADS = 2;

    private static final int LEAST_USE = 0;
    private static final int GREATEST_GAIN = 1;
    private static final int GREATEST_AGE = 2;

    private static final int SNAPSHOT_BIT = 8;
    private static final int LIVE_BIT = 16;

    private final Volume now = new Volume();
    private final Volume thought = new Volume();
    private final History history = new History();

    public AppendedVolume() {
        now.begin(4, 4, 5);
    }

    public void reset(int segments, int blocks, int patience) throws IllegalArgumentException {
        checkArgument(isBetween(segments, LEAST_SEGMENTS, MOST_SEGMENTS));
        checkArgument(isBetween(blocks, LEAST_BLOCKS, MOST_BLOCKS));
        checkArgument(isBetween(patience, 1, MOST_PATIENCE));
        history.save(now);
        now.begin(segments, blocks, patience);
    }

    // ---- keys

    public int write(int key, int value) throws IndexOutOfBoundsException, IllegalStateException {
        checkKey(key);
        checkState(now.roomForWrites() > 0);
        history.save(now);
        return now.appendVersion(key, value);
    }

    public int delete(int key) throws IndexOutOfBoundsException, NoSuchElementException {
        checkKey(key);
        checkElement(now.live[key] != NONE);
        history.save(now);
        return now.dropLive(key);
    }

    public int get(int key) throws IndexOutOfBoundsException, NoSuchElementException {
        checkKey(key);
        int address = now.live[key];
        checkElement(address != NONE);
        return now.store.value[address];
    }

    public int addressOf(int key) throws IndexOutOfBoundsException {
        checkKey(key);
        return now.live[key];
    }

    public int room() {
        return now.roomForWrites();
    }

    public int versions(int key) throws IndexOutOfBoundsException {
        checkKey(key);
        return now.store.versionsOf(key);
    }

    public int version(int key, int index) throws IndexOutOfBoundsException {
        checkKey(key);
        int address = now.store.versionAt(key, index);
        checkIndex(address != NONE);
        return address;
    }

    // ---- snapshots

    public int takeSnapshot(int snapshot) throws IndexOutOfBoundsException, IllegalStateException {
        checkSnapshot(snapshot);
        checkState(!now.snapshots.taken[snapshot]);
        history.save(now);
        return now.snapshots.take(snapshot, now.live);
    }

    public int dropSnapshot(int snapshot) throws IndexOutOfBoundsException, IllegalStateException {
        checkTaken(snapshot);
        history.save(now);
        return now.forgetSnapshot(snapshot);
    }

    public int rollBack(int snapshot) throws IndexOutOfBoundsException, IllegalStateException {
        checkTaken(snapshot);
        history.save(now);
        return now.returnTo(snapshot);
    }

    public int getFrom(int snapshot, int key)
            throws IndexOutOfBoundsException, IllegalStateException, NoSuchElementException {
        checkKey(key);
        checkTaken(snapshot);
        int address = now.snapshots.blockOf(snapshot, key);
        checkElement(address != NONE);
        return now.store.value[address];
    }

    public int changedSince(int snapshot) throws IndexOutOfBoundsException, IllegalStateException {
        checkTaken(snapshot);
        int changed = 0;
        for (int key = 0; key < KEYS; key++) {
            if (now.snapshots.blockOf(snapshot, key) != now.live[key]) {
                changed++;
            }
        }
        return changed;
    }

    public int difference(int snapshot, int other) throws IndexOutOfBoundsException, IllegalStateException {
        checkSnapshot(snapshot);
        checkSnapshot(other);
        checkTaken(snapshot);
        checkTaken(other);
        int different = 0;
        for (int key = 0; key < KEYS; key++) {
            if (now.snapshots.blockOf(snapshot, key) != now.snapshots.blockOf(other, key)) {
                different++;
            }
        }
        return different;
    }

    public int ownBlocks(int snapshot) throws IndexOutOfBoundsException, IllegalStateException {
        checkTaken(snapshot);
        int own = 0;
        for (int key = 0; key < KEYS; key++) {
            if (now.isOwn(snapshot, key)) {
                own++;
            }
        }
        return own;
    }

    // ---- readers

    public int enter(int reader) throws IndexOutOfBoundsException, IllegalStateException {
        checkReader(reader);
        checkState(!now.readers.isInside(reader));
        history.save(now);
        now.readers.letIn(reader, now.epoch);
        return now.epoch;
    }

    public int leave(int reader) throws IndexOutOfBoundsException, IllegalStateException {
        checkReader(reader);
        checkState(now.readers.state[reader] != OUTSIDE);
        history.save(now);
        now.readers.sendOut(reader, OUTSIDE);
        return now.store.releaseAll(reader);
    }

    public int announce(int reader) throws IndexOutOfBoundsException, IllegalStateException {
        checkReader(reader);
        checkState(now.readers.isInside(reader));
        history.save(now);
        now.readers.letIn(reader, now.epoch);
        return now.store.releaseAll(reader);
    }

    public int hold(int reader, int key)
            throws IndexOutOfBoundsException, IllegalStateException, NoSuchElementException {
        checkReader(reader);
        checkKey(key);
        checkState(now.readers.isInside(reader));
        int address = now.live[key];
        checkElement(address != NONE);
        history.save(now);
        now.store.addHolder(address, reader);
        return address;
    }

    public int release(int reader, int address) throws IndexOutOfBoundsException, NoSuchElementException {
        checkHeld(reader, address);
        history.save(now);
        now.store.removeHolder(address, reader);
        return now.store.heldBy(reader);
    }

    public int read(int reader, int address) throws IndexOutOfBoundsException, NoSuchElementException {
        checkHeld(reader, address);
        return now.store.value[address];
    }

    public int reader(int reader, int what) throws IndexOutOfBoundsException, IllegalArgumentException {
        checkReader(reader);
        switch (what) {
            case 0:
                return now.readers.state[reader];
            case 1:
                return now.readers.announced[reader];
            case 2:
                return now.store.heldBy(reader);
            case 3:
                return now.stallOf(reader);
            case 4:
                return now.store.waitingHeldBy(reader);
            default:
                throw new IllegalArgumentException("no such number of a reader");
        }
    }

    public int blockers() {
        return now.readers.stalledMask(now.epoch);
    }

    public int expel(int reader) throws IndexOutOfBoundsException, IllegalStateException {
        checkReader(reader);
        checkState(now.readers.isInside(reader));
        checkState(now.stallOf(reader) >= now.patience);
        history.save(now);
        now.readers.sendOut(reader, EXPELLED);
        return now.store.releaseAll(reader);
    }

    public int reclaimableWithout(int reader) throws IndexOutOfBoundsException {
        checkIndex(reader == NONE || isBetween(reader, 0, READERS - 1));
        return now.reclaimableIfGone(reader);
    }

    public int costliestReader() {
        int costliest = NONE;
        int most = now.reclaimableIfGone(NONE);
        for (int reader = 0; reader < READERS; reader++) {
            int reclaimable = now.reclaimableIfGone(reader);
            if (reclaimable > most) {
                costliest = reader;
                most = reclaimable;
            }
        }
        return costliest;
    }

    // ---- epochs and time

    public int advance() throws IllegalStateException {
        checkState(now.readers.stalledMask(now.epoch) == 0);
        history.save(now);
        now.epoch++;
        now.epochTick = now.tick;
        return now.epoch;
    }

    public int pass(int ticks) throws IllegalArgumentException, IllegalStateException {
        checkArgument(isBetween(ticks, 1, MOST_TICKS));
        checkState(now.tick + ticks <= LAST_TICK);
        history.save(now);
        now.tick += ticks;
        return now.tick;
    }

    public int count(int what) throws IllegalArgumentException {
        switch (what) {
            case 0:
                return now.parts.number;
            case 1:
                return now.parts.size;
            case 2:
                return now.patience;
            case 3:
                return now.epoch;
            case 4:
                return now.tick;
            case 5:
                return now.epochTick;
            case 6:
                return now.written;
            case 7:
                return now.relocated;
            case 8:
                return now.parts.head[FIRST_HEAD];
            case 9:
                return now.parts.head[SECOND_HEAD];
            default:
                throw new IllegalArgumentException("no such number of the volume");
        }
    }

    // ---- segments and blocks

    public int blocks(int state) throws IllegalArgumentException {
        checkArgument(isBetween(state, UNUSED, DEAD));
        int found = 0;
        for (int segment = 0; segment < now.parts.number; segment++) {
            found += now.blocksIn(segment, state);
        }
        return found;
    }

    public int segment(int segment, int what) throws IndexOutOfBoundsException, IllegalArgumentException {
        checkSegment(segment);
        switch (what) {
            case 0:
                return now.parts.state[segment];
            case 1:
                return now.useOf(segment);
            case 2:
                return now.blocksIn(segment, WAITING);
            case 3:
                return now.blocksIn(segment, DEAD);
            case 4:
                return now.parts.erases[segment];
            case 5:
                return now.ageOf(segment);
            default:
                throw new IllegalArgumentException("no such number of a segment");
        }
    }

    public int meanAge(int segment, boolean denominator) throws IndexOutOfBoundsException, NoSuchElementException {
        checkSegment(segment);
        int use = now.useOf(segment);
        checkElement(use > 0);
        return inLowestTerms(now.sumOfAges(segment), use, denominator);
    }

    public int block(int address, int what) throws IndexOutOfBoundsException, IllegalArgumentException {
        checkAddress(address);
        switch (what) {
            case 0:
                return now.store.state[address];
            case 1:
                return now.store.key[address];
            case 2:
                return now.store.value[address];
            case 3:
                return now.store.tick[address];
            case 4:
                return now.store.waitingEpoch[address];
            default:
                throw new IllegalArgumentException("no such number of a block");
        }
    }

    public int neededBy(int address) throws IndexOutOfBoundsException {
        checkAddress(address);
        int mask = now.store.holders[address];
        for (int snapshot = 0; snapshot < SNAPSHOTS; snapshot++) {
            if (now.snapshots.has(snapshot, now.store.key[address], address)) {
                mask |= 1 << (SNAPSHOT_BIT + snapshot);
            }
        }
        if (now.store.state[address] == LIVE) {
            mask |= 1 << LIVE_BIT;
        }
        return mask;
    }

    public int waiting(int advances) throws IllegalArgumentException {
        checkArgument(isBetween(advances, 0, EPOCHS_TO_WAIT));
        int upTo = now.reclaimableAfter(advances);
        return advances == 0 ? upTo : upTo - now.reclaimableAfter(advances - 1);
    }

    // ---- reclaiming and relocation

    public int reclaim() {
        history.save(now);
        return now.regain();
    }

    public int wouldErase() {
        int erased = 0;
        for (int segment = 0; segment < now.parts.number; segment++) {
            if (now.canBeErased(segment) && now.advancesMissingIn(segment) == 0) {
                erased++;
            }
        }
        return erased;
    }

    public int advancesToErase(int segment) throws IndexOutOfBoundsException, NoSuchElementException {
        checkSegment(segment);
        checkElement(now.canBeErased(segment));
        return now.advancesMissingIn(segment);
    }

    public int relocate(int segment) throws IndexOutOfBoundsException, IllegalStateException {
        checkSegment(segment);
        checkState(now.parts.state[segment] == FULL);
        checkState(now.useOf(segment) <= now.roomForRelocation());
        history.save(now);
        return now.moveAll(segment);
    }

    public int victim(int rule) throws IllegalArgumentException, NoSuchElementException {
        checkArgument(isBetween(rule, LEAST_USE, GREATEST_AGE));
        int segment = now.chooseVictim(rule);
        checkElement(segment != NONE);
        return segment;
    }

    public int relocationsFor(int rule, int writes) throws IllegalArgumentException, NoSuchElementException {
        checkArgument(isBetween(rule, LEAST_USE, GREATEST_AGE));
        checkArgument(isBetween(writes, 1, MOST_WRITES));
        thought.copyFrom(now);
        int relocations = thought.relocateUntilRoom(rule, writes);
        checkElement(relocations != NONE);
        return relocations;
    }

    public int regainable() {
        int regained = 0;
        for (int segment = 0; segment < now.parts.number; segment++) {
            regained += now.parts.size - now.useOf(segment);
        }
        return regained;
    }

    public int regainableNow() {
        int regained = 0;
        for (int segment = 0; segment < now.parts.number; segment++) {
            if (now.canBeErased(segment)) {
                regained += now.parts.size;
            }
        }
        return regained;
    }

    public int amplification(boolean denominator) throws NoSuchElementException {
        checkElement(now.written > 0);
        return inLowestTerms(now.written + now.relocated, now.written, denominator);
    }

    public int wearGap() {
        int least = now.parts.erases[0];
        int most = least;
        for (int segment = 1; segment < now.parts.number; segment++) {
            least = Math.min(least, now.parts.erases[segment]);
            most = Math.max(most, now.parts.erases[segment]);
        }
        return most - least;
    }

    public int undo() throws IllegalStateException {
        checkState(history.size > 0);
        history.restore(now);
        return history.size;
    }

    // ---- tests of arguments

    private void checkTaken(int snapshot) {
        checkSnapshot(snapshot);
        checkState(now.snapshots.taken[snapshot]);
    }

    private void checkHeld(int reader, int address) {
        checkReader(reader);
        checkAddress(address);
        checkElement(now.store.isHeldBy(address, reader));
    }

    private void checkSegment(int segment) {
        checkIndex(isBetween(segment, 0, now.parts.number - 1));
    }

    private void checkAddress(int address) {
        checkIndex(address >= 0 && address / STRIDE < now.parts.number && address % STRIDE < now.parts.size);
    }

    private static void checkKey(int key) {
        checkIndex(isBetween(key, 0, KEYS - 1));
    }

    private static void checkReader(int reader) {
        checkIndex(isBetween(reader, 0, READERS - 1));
    }

    private static void checkSnapshot(int snapshot) {
        checkIndex(isBetween(snapshot, 0, SNAPSHOTS - 1));
    }

    private static void checkIndex(boolean exists) {
        if (!exists) {
            throw new IndexOutOfBoundsException();
        }
    }

    private static void checkArgument(boolean inRange) {
        if (!inRange) {
            throw new IllegalArgumentException();
        }
    }

    private static void checkState(boolean allowed) {
        if (!allowed) {
            throw new IllegalStateException();
        }
    }

    private static void checkElement(boolean found) {
        if (!found) {
            throw new NoSuchElementException();
        }
    }

    private static boolean isBetween(int number, int least, int most) {
        return number >= least && number <= most;
    }

    // ---- fractions

    private static int inLowestTerms(int numerator, int denominator, boolean wantDenominator) {
        int wanted = wantDenominator ? denominator : numerator;
        int divisor = greatestDivisor(numerator, denominator);
        return divisor == 0 ? wanted : wanted / divisor;
    }

    private static int greatestDivisor(int one, int other) {
        int divisor = one;
        int rest = other;
        for (int step = 0; step < FRACTION_STEPS && rest != 0; step++) {
            int next = divisor % rest;
            divisor = rest;
            rest = next;
        }
        return divisor;
    }

    /** All that a change can alter, so that one copy serves for undo and for calls in thought. */
    private static final class Volume {
        final Segments parts = new Segments();
        final Blocks store = new Blocks();
        final Readers readers = new Readers();
        final Snapshots snapshots = new Snapshots();
        final int[] live = new int[KEYS];
        int patience;
        int epoch;
        int epochTick;
        int tick;
        int written;
        int relocated;

        void begin(int segments, int blocks, int newPatience) {
            parts.begin(segments, blocks);
            store.begin();
            readers.begin();
            snapshots.begin();
            Arrays.fill(live, NONE);
            patience = newPatience;
            epoch = 0;
            epochTick = 0;
            tick = 0;
            written = 0;
            relocated = 0;
        }

        void copyFrom(Volume other) {
            parts.copyFrom(other.parts);
            store.copyFrom(other.store);
            readers.copyFrom(other.readers);
            snapshots.copyFrom(other.snapshots);
            System.arraycopy(other.live, 0, live, 0, KEYS);
            patience = other.patience;
            epoch = other.epoch;
            epochTick = other.epochTick;
            tick = other.tick;
            written = other.written;
            relocated = other.relocated;
        }

        // ---- room

        int roomForWrites() {
            // The last free segment is kept for relocation.
            int segments = Math.max(0, parts.freeSegments() - 1);
            return parts.unusedAt(FIRST_HEAD) + segments * parts.size;
        }

        int roomForRelocation() {
            return parts.unusedAt(SECOND_HEAD) + parts.freeSegments() * parts.size;
        }

        // ---- keys and snapshots

        int appendVersion(int key, int value) {
            int address = parts.appendAt(FIRST_HEAD);
            if (address != NONE) {
                dropLive(key);
                store.fill(address, key, value, tick);
                store.state[address] = LIVE;
                live[key] = address;
                written++;
            }
            return address;
        }

        int dropLive(int key) {
            int address = live[key];
            live[key] = NONE;
            if (address != NONE) {
                if (snapshots.anyHas(key, address)) {
                    store.state[address] = KEPT;
                } else {
                    store.beginToWait(address, epoch);
                }
            }
            return address;
        }

        int forgetSnapshot(int snapshot) {
            int own = 0;
            for (int key = 0; key < KEYS; key++) {
                if (isOwn(snapshot, key)) {
                    store.beginToWait(snapshots.blockOf(snapshot, key), epoch);
                    own++;
                }
            }
            snapshots.forget(snapshot);
            return own;
        }

        int returnTo(int snapshot) {
            int changed = 0;
            for (int key = 0; key < KEYS; key++) {
                int address = snapshots.blockOf(snapshot, key);
                if (address != live[key]) {
                    dropLive(key);
                    live[key] = address;
                    if (address != NONE) {
                        store.state[address] = LIVE;
                    }
                    changed++;
                }
            }
            return changed;
        }

        /** Tells whether a snapshot alone needs its block of a key. */
        boolean isOwn(int snapshot, int key) {
            int address = snapshots.blockOf(snapshot, key);
            return address != NONE && store.state[address] == KEPT && snapshots.havers(key, address) == 1;
        }

        // ---- epochs

        int stallOf(int reader) {
            return readers.isStalled(reader, epoch) ? tick - epochTick : 0;
        }

        int reclaimableIfGone(int reader) {
            return reclaimableAfter(readers.advancesWithout(reader, epoch));
        }

        int reclaimableAfter(int advances) {
            return store.waitingUpTo(epoch + advances - EPOCHS_TO_WAIT);
        }

        // ---- segments

        int blocksIn(int segment, int state) {
            int first = segment * STRIDE;
            return store.inState(first, first + parts.size, state);
        }

        int useOf(int segment) {
            return blocksIn(segment, LIVE) + blocksIn(segment, KEPT);
        }

        int ageOf(int segment) {
            int first = segment * STRIDE;
            int latest = store.latestTick(first, first + parts.size);
            return latest == NONE ? 0 : tick - latest;
        }

        int sumOfAges(int segment) {
            int first = segment * STRIDE;
            int sum = 0;
            for (int address = first; address < first + parts.size; address++) {
                if (store.isNeeded(address)) {
                    sum += tick - store.tick[address];
                }
            }
            return sum;
        }

        boolean canBeErased(int segment) {
            return parts.state[segment] == FULL && useOf(segment) == 0;
        }

        int advancesMissingIn(int segment) {
            int first = segment * STRIDE;
            int latest = store.latestWaitingEpoch(first, first + parts.size);
            return latest == NONE ? 0 : Math.max(0, latest + EPOCHS_TO_WAIT - epoch);
        }

        // ---- reclaiming and relocation

        int regain() {
            int died = store.letDie(epoch - EPOCHS_TO_WAIT);
            for (int segment = 0; segment < parts.number; segment++) {
                if (parts.state[segment] == FULL && blocksIn(segment, DEAD) == parts.size) {
                    parts.erase(segment);
                    store.erase(segment * STRIDE, segment * STRIDE + parts.size);
                }
            }
            return died;
        }

        int moveAll(int segment) {
            int first = segment * STRIDE;
            int moved = 0;
            for (int address = first; address < first + parts.size; address++) {
                if (store.isNeeded(address)) {
                    move(address);
                    moved++;
                }
            }
            relocated += moved;
            return moved;
        }

        private void move(int from) {
            int to = parts.appendAt(SECOND_HEAD);
            if (to == NONE) {
                return;
            }
            int key = store.key[from];
            store.fill(to, key, store.value[from], store.tick[from]);
            store.state[to] = store.state[from];
            if (store.state[from] == LIVE) {
                live[key] = to;
            }
            snapshots.exchange(key, from, to);
            store.beginToWait(from, epoch);
        }

        int chooseVictim(int rule) {
            int best = NONE;
            for (int segment = 0; segment < parts.number; segment++) {
                if (parts.state[segment] == FULL && useOf(segment) < parts.size
                        && (best == NONE || isBetter(rule, segment, best))) {
                    best = segment;
                }
            }
            return best;
        }

        private boolean isBetter(int rule, int segment, int best) {
            int use = useOf(segment);
            int bestUse = useOf(best);
            int age = ageOf(segment);
            int bestAge = ageOf(best);
            switch (rule) {
                case LEAST_USE:
                    return use < bestUse;
                case GREATEST_GAIN:
                    // The fractions are compared crosswise, so that nothing is rounded.
                    return (long) (parts.size - use) * age * (parts.size + bestUse)
                            > (long) (parts.size - bestUse) * bestAge * (parts.size + use);
                default:
                    return age > bestAge;
            }
        }

        /** Answers the number of relocations, or NONE if there is no way. */
        int relocateUntilRoom(int rule, int writes) {
            for (int relocations = 0; relocations <= MOST_RELOCATIONS; relocations++) {
                // All readers have left, so that nothing keeps the epoch from advancing.
                epoch += EPOCHS_TO_WAIT;
                regain();
                if (roomForWrites() >= writes) {
                    return relocations;
                }
                int segment = chooseVictim(rule);
                if (segment == NONE || useOf(segment) > roomForRelocation()) {
                    return NONE;
                }
                moveAll(segment);
            }
            return NONE;
        }
    }

    /** The segments and the two heads. */
    private static final class Segments {
        final int[] state = new int[MOST_SEGMENTS];
        final int[] erases = new int[MOST_SEGMENTS];
        final int[] used = new int[MOST_SEGMENTS];
        final int[] head = new int[HEADS];
        int number;
        int size;

        void begin(int segments, int blocks) {
            Arrays.fill(state, FREE);
            Arrays.fill(erases, 0);
            Arrays.fill(used, 0);
            Arrays.fill(head, NONE);
            number = segments;
            size = blocks;
        }

        void copyFrom(Segments other) {
            System.arraycopy(other.state, 0, state, 0, MOST_SEGMENTS);
            System.arraycopy(other.erases, 0, erases, 0, MOST_SEGMENTS);
            System.arraycopy(other.used, 0, used, 0, MOST_SEGMENTS);
            System.arraycopy(other.head, 0, head, 0, HEADS);
            number = other.number;
            size = other.size;
        }

        int freeSegments() {
            int free = 0;
            for (int segment = 0; segment < number; segment++) {
                if (state[segment] == FREE) {
                    free++;
                }
            }
            return free;
        }

        int unusedAt(int which) {
            int segment = head[which];
            return segment == NONE ? 0 : size - used[segment];
        }

        /** Answers the address of the next block at a head, or NONE if no segment is left. */
        int appendAt(int which) {
            int segment = head[which];
            if (segment == NONE) {
                segment = leastErasedFree();
            }
            if (segment == NONE) {
                return NONE;
            }
            int address = segment * STRIDE + used[segment];
            used[segment]++;
            boolean full = used[segment] >= size;
            state[segment] = full ? FULL : OPEN;
            head[which] = full ? NONE : segment;
            return address;
        }

        private int leastErasedFree() {
            int best = NONE;
            for (int segment = 0; segment < number; segment++) {
                if (state[segment] == FREE && (best == NONE || erases[segment] < erases[best])) {
                    best = segment;
                }
            }
            return best;
        }

        void erase(int segment) {
            state[segment] = FREE;
            used[segment] = 0;
            erases[segment]++;
        }
    }

    /** The blocks by address; those that the volume has not are unused for ever. */
    private static final class Blocks {
        final int[] state = new int[ADDRESSES];
        final int[] key = new int[ADDRESSES];
        final int[] value = new int[ADDRESSES];
        final int[] tick = new int[ADDRESSES];
        final int[] waitingEpoch = new int[ADDRESSES];
        final int[] holders = new int[ADDRESSES];

        void begin() {
            erase(0, ADDRESSES);
        }

        void copyFrom(Blocks other) {
            System.arraycopy(other.state, 0, state, 0, ADDRESSES);
            System.arraycopy(other.key, 0, key, 0, ADDRESSES);
            System.arraycopy(other.value, 0, value, 0, ADDRESSES);
            System.arraycopy(other.tick, 0, tick, 0, ADDRESSES);
            System.arraycopy(other.waitingEpoch, 0, waitingEpoch, 0, ADDRESSES);
            System.arraycopy(other.holders, 0, holders, 0, ADDRESSES);
        }

        void erase(int first, int end) {
            for (int address = first; address < end; address++) {
                state[address] = UNUSED;
                fill(address, NONE, NONE, NONE);
                waitingEpoch[address] = NONE;
                holders[address] = 0;
            }
        }

        void fill(int address, int newKey, int newValue, int newTick) {
            key[address] = newKey;
            value[address] = newValue;
            tick[address] = newTick;
        }

        boolean isNeeded(int address) {
            return state[address] == LIVE || state[address] == KEPT;
        }

        int inState(int first, int end, int wanted) {
            int found = 0;
            for (int address = first; address < end; address++) {
                if (state[address] == wanted) {
                    found++;
                }
            }
            return found;
        }

        int latestTick(int first, int end) {
            int latest = NONE;
            for (int address = first; address < end; address++) {
                latest = Math.max(latest, tick[address]);
            }
            return latest;
        }

        // ---- versions of a key

        int versionsOf(int wanted) {
            int found = 0;
            for (int address = 0; address < ADDRESSES; address++) {
                if (isVersion(address, wanted)) {
                    found++;
                }
            }
            return found;
        }

        int versionAt(int wanted, int index) {
            int found = 0;
            for (int address = 0; address < ADDRESSES; address++) {
                if (isVersion(address, wanted)) {
                    if (found == index) {
                        return address;
                    }
                    found++;
                }
            }
            return NONE;
        }

        private boolean isVersion(int address, int wanted) {
            return key[address] == wanted && (isNeeded(address) || state[address] == WAITING);
        }

        // ---- waiting

        void beginToWait(int address, int epoch) {
            state[address] = WAITING;
            waitingEpoch[address] = epoch;
        }

        int waitingUpTo(int epoch) {
            int found = 0;
            for (int address = 0; address < ADDRESSES; address++) {
                if (state[address] == WAITING && waitingEpoch[address] <= epoch) {
                    found++;
                }
            }
            return found;
        }

        int latestWaitingEpoch(int first, int end) {
            int latest = NONE;
            for (int address = first; address < end; address++) {
                latest = Math.max(latest, waitingEpoch[address]);
            }
            return latest;
        }

        int letDie(int epoch) {
            int died = 0;
            for (int address = 0; address < ADDRESSES; address++) {
                if (state[address] == WAITING && waitingEpoch[address] <= epoch) {
                    state[address] = DEAD;
                    waitingEpoch[address] = NONE;
                    died++;
                }
            }
            return died;
        }

        // ---- holding

        boolean isHeldBy(int address, int reader) {
            return (holders[address] & 1 << reader) != 0;
        }

        void addHolder(int address, int reader) {
            holders[address] |= 1 << reader;
        }

        void removeHolder(int address, int reader) {
            holders[address] &= ~(1 << reader);
        }

        int heldBy(int reader) {
            int held = 0;
            for (int address = 0; address < ADDRESSES; address++) {
                if (isHeldBy(address, reader)) {
                    held++;
                }
            }
            return held;
        }

        int waitingHeldBy(int reader) {
            int held = 0;
            for (int address = 0; address < ADDRESSES; address++) {
                if (state[address] == WAITING && isHeldBy(address, reader)) {
                    held++;
                }
            }
            return held;
        }

        int releaseAll(int reader) {
            int held = heldBy(reader);
            for (int address = 0; address < ADDRESSES; address++) {
                removeHolder(address, reader);
            }
            return held;
        }
    }

    /** The readers: where they are, and the epoch that those inside have announced. */
    private static final class Readers {
        final int[] state = new int[READERS];
        final int[] announced = new int[READERS];

        void begin() {
            Arrays.fill(state, OUTSIDE);
            Arrays.fill(announced, NONE);
        }

        void copyFrom(Readers other) {
            System.arraycopy(other.state, 0, state, 0, READERS);
            System.arraycopy(other.announced, 0, announced, 0, READERS);
        }

        void letIn(int reader, int epoch) {
            state[reader] = INSIDE;
            announced[reader] = epoch;
        }

        void sendOut(int reader, int newState) {
            state[reader] = newState;
            announced[reader] = NONE;
        }

        boolean isInside(int reader) {
            return state[reader] == INSIDE;
        }

        boolean isStalled(int reader, int epoch) {
            return isInside(reader) && announced[reader] != epoch;
        }

        int stalledMask(int epoch) {
            int mask = 0;
            for (int reader = 0; reader < READERS; reader++) {
                if (isStalled(reader, epoch)) {
                    mask |= 1 << reader;
                }
            }
            return mask;
        }

        /** Counts how often, up to twice, the epoch could advance if a reader were not inside. */
        int advancesWithout(int gone, int epoch) {
            int advances = 2;
            for (int reader = 0; reader < READERS; reader++) {
                if (reader != gone && isInside(reader)) {
                    // Who has announced the present epoch is behind after the first advance.
                    advances = Math.min(advances, isStalled(reader, epoch) ? 0 : 1);
                }
            }
            return advances;
        }
    }

    /** The snapshots: for each one a row with the address of its block of each key. */
    private static final class Snapshots {
        final boolean[] taken = new boolean[SNAPSHOTS];
        final int[] rows = new int[SNAPSHOTS * KEYS];

        void begin() {
            for (int snapshot = 0; snapshot < SNAPSHOTS; snapshot++) {
                forget(snapshot);
            }
        }

        void copyFrom(Snapshots other) {
            for (int snapshot = 0; snapshot < SNAPSHOTS; snapshot++) {
                taken[snapshot] = other.taken[snapshot];
            }
            System.arraycopy(other.rows, 0, rows, 0, SNAPSHOTS * KEYS);
        }

        int take(int snapshot, int[] live) {
            int size = 0;
            taken[snapshot] = true;
            for (int key = 0; key < KEYS; key++) {
                rows[snapshot * KEYS + key] = live[key];
                if (live[key] != NONE) {
                    size++;
                }
            }
            return size;
        }

        void forget(int snapshot) {
            taken[snapshot] = false;
            for (int key = 0; key < KEYS; key++) {
                rows[snapshot * KEYS + key] = NONE;
            }
        }

        int blockOf(int snapshot, int key) {
            return rows[snapshot * KEYS + key];
        }

        /** An unused block has the key NONE, and no snapshot has it. */
        boolean has(int snapshot, int key, int address) {
            return key != NONE && blockOf(snapshot, key) == address;
        }

        int havers(int key, int address) {
            int found = 0;
            for (int snapshot = 0; snapshot < SNAPSHOTS; snapshot++) {
                if (has(snapshot, key, address)) {
                    found++;
                }
            }
            return found;
        }

        boolean anyHas(int key, int address) {
            return havers(key, address) > 0;
        }

        void exchange(int key, int from, int to) {
            for (int snapshot = 0; snapshot < SNAPSHOTS; snapshot++) {
                if (has(snapshot, key, from)) {
                    rows[snapshot * KEYS + key] = to;
                }
            }
        }
    }

    /** The volumes before the latest changes; the oldest one makes way for a new one. */
    private static final class History {
        private final Volume[] saved = new Volume[CHANGES_KEPT];
        private int next;
        int size;

        History() {
            for (int slot = 0; slot < CHANGES_KEPT; slot++) {
                saved[slot] = new Volume();
            }
        }

        void save(Volume volume) {
            saved[next].copyFrom(volume);
            next = (next + 1) % CHANGES_KEPT;
            size = Math.min(size + 1, CHANGES_KEPT);
        }

        void restore(Volume volume) {
            next = (next + CHANGES_KEPT - 1) % CHANGES_KEPT;
            size = size - 1;
            volume.copyFrom(saved[next]);
        }
    }
}
