import java.util.Arrays;

/**
 * A store that keeps keys in an index and values in a log. Entries are appended in memory and kept
 * from the time on when they are written; power can fail at any write.
 */
public final class Keysapart {
    /** There is none. */
    public static final int NONE = -1;

    private static final int KEYS = 64;
    private static final int LARGEST_VALUE = 9999;
    private static final int ENTRIES_PER_SEGMENT = 8;
    private static final int MOST_SEGMENTS = 12;
    private static final int MOST_ENTRIES = ENTRIES_PER_SEGMENT * MOST_SEGMENTS;
    private static final int MOST_WRITES_AHEAD = 1000;

    /** Stands in an entry in place of a value; no value is negative. */
    private static final int DELETED = -1;

    private final Log log;
    private final Index index;
    private final Index checkpointIndex;
    /** wouldHave tries a start on this one, so that the index itself stays as it is. */
    private final Index trialIndex;

    private boolean up;
    private int headAt;
    private int tailAt;
    private int writtenTo;
    private int checkpointTo;
    /** How many writes are still done ahead of the one that fails; NONE if none is to fail. */
    private int writesAhead;

    /** Makes an empty store that is up; power does not fail. */
    public Keysapart() {
        log = new Log();
        index = new Index();
        checkpointIndex = new Index();
        trialIndex = new Index();
        up = true;
        headAt = 0;
        tailAt = 0;
        writtenTo = 0;
        checkpointTo = 0;
        writesAhead = NONE;
    }

    // ---- keys

    /** Puts a value; returns the position of its entry. */
    public int put(int key, int value) throws IllegalArgumentException, IllegalStateException {
        needKey(key);
        if (value < 0 || value > LARGEST_VALUE) {
            throw new IllegalArgumentException("a value is 0 to 9999");
        }
        needUp();
        needRoom(1);
        return append(key, value);
    }

    /** Deletes a key; returns the value that it had. */
    public int delete(int key) throws IllegalArgumentException, IllegalStateException {
        needKey(key);
        needUp();
        if (!index.has(key)) {
            throw new IllegalStateException("the key is not there");
        }
        needRoom(1);
        int value = valueOf(key);
        append(key, DELETED);
        return value;
    }

    /** Returns the value of a key; NONE if it is not there. */
    public int get(int key) throws IllegalArgumentException, IllegalStateException {
        needKey(key);
        needUp();
        return index.has(key) ? valueOf(key) : NONE;
    }

    /** Returns the first key from a key on, this one included, that is there; NONE if there is none. */
    public int next(int key) throws IllegalArgumentException, IllegalStateException {
        needKey(key);
        needUp();
        for (int k = key; k < KEYS; k++) {
            if (index.has(k)) {
                return k;
            }
        }
        return NONE;
    }

    /** Returns the sum of the values of all keys from one to another one. */
    public int sum(int from, int to) throws IllegalArgumentException, IllegalStateException {
        needRange(from, to);
        needUp();
        int total = 0;
        for (int k = from; k <= to; k++) {
            if (index.has(k)) {
                total += valueOf(k);
            }
        }
        return total;
    }

    /** Returns in how many segments the entries of the keys from one to another one are. */
    public int fetches(int from, int to) throws IllegalArgumentException, IllegalStateException {
        needRange(from, to);
        needUp();
        int firstSegment = segmentOf(tailAt);
        int found = 0;
        for (int k = from; k <= to; k++) {
            if (index.has(k)) {
                found |= 1 << (segmentOf(index.find(k)) - firstSegment);
            }
        }
        return Integer.bitCount(found);
    }

    // ---- what is kept

    /** Writes all entries that are not written; returns whether the store is still up. */
    public boolean synchronize() throws IllegalStateException {
        needUp();
        return writeEntries();
    }

    /** Makes a checkpoint; returns whether the store is still up. */
    public boolean checkpoint() throws IllegalStateException {
        needUp();
        if (!writeEntries() || !writeOnce()) {
            return false;
        }
        checkpointIndex.takeFrom(index);
        checkpointTo = headAt;
        return true;
    }

    /** Collects entries from the tail; returns whether the store is still up. */
    public boolean collect(int entries) throws IllegalArgumentException, IllegalStateException {
        if (entries < 1 || entries > MOST_ENTRIES) {
            throw new IllegalArgumentException("entries are 1 to 96");
        }
        needUp();
        if (entries > headAt - tailAt) {
            throw new IllegalStateException("the log has fewer entries");
        }
        needRoom(liveFromTail(entries));
        appendLiveAgain(entries);
        if (!writeEntries() || !writeOnce()) {
            return false;
        }
        tailAt += entries;
        return true;
    }

    /** Chooses how many writes are still done ahead of the one at which power fails; NONE for no failure. */
    public void failAfter(int writes) throws IllegalArgumentException {
        if (writes != NONE && (writes < 0 || writes > MOST_WRITES_AHEAD)) {
            throw new IllegalArgumentException("writes are 0 to 1000, or NONE");
        }
        writesAhead = writes;
    }

    /** Lets the store lose its power now; returns how many entries are lost. */
    public int crash() throws IllegalStateException {
        needUp();
        int lost = headAt - writtenTo;
        losePower();
        return lost;
    }

    /** Starts the store; returns how many keys are there then. */
    public int start() throws IllegalStateException {
        if (up) {
            throw new IllegalStateException("the store is up");
        }
        recover(index);
        up = true;
        return index.size();
    }

    /** Tells whether the store is up. */
    public boolean isUp() {
        return up;
    }

    // ---- the log

    /** Returns the head; the written position, if the store is down. */
    public int head() {
        return headAt;
    }

    /** Returns the tail. */
    public int tail() {
        return tailAt;
    }

    /** Returns the written position. */
    public int written() {
        return writtenTo;
    }

    /** Returns the position of the latest checkpoint. */
    public int checkpointAt() {
        return checkpointTo;
    }

    /** Returns the position that the index has for a key; NONE if it is not there. */
    public int positionOf(int key) throws IllegalArgumentException, IllegalStateException {
        needKey(key);
        needUp();
        return index.find(key);
    }

    /** Returns how many segments are in use. */
    public int segments() {
        if (headAt <= tailAt) {
            return 0;
        }
        return segmentOf(headAt - 1) - segmentOf(tailAt) + 1;
    }

    /** Returns how many entries of the log are live. */
    public int live() throws IllegalStateException {
        needUp();
        return liveFromTail(headAt - tailAt);
    }

    /** Returns how many entries from the tail on fill its segment; NONE if the log does not have them all. */
    public int toFree() {
        int upToEnd = (segmentOf(tailAt) + 1) * ENTRIES_PER_SEGMENT - tailAt;
        return upToEnd <= headAt - tailAt ? upToEnd : NONE;
    }

    /** Returns how many keys would be there, if the store lost its power now and were started. */
    public int wouldHave() {
        recover(trialIndex);
        return trialIndex.size();
    }

    // ---- what the calls need

    private static void needKey(int key) {
        if (key < 0 || key >= KEYS) {
            throw new IllegalArgumentException("a key is 0 to 63");
        }
    }

    private static void needRange(int from, int to) {
        needKey(from);
        needKey(to);
        if (to < from) {
            throw new IllegalArgumentException("a range ends where it begins or behind it");
        }
    }

    private void needUp() {
        if (!up) {
            throw new IllegalStateException("the store is down");
        }
    }

    private void needRoom(int count) {
        int roomEnd = segmentOf(tailAt) * ENTRIES_PER_SEGMENT + MOST_ENTRIES;
        if (count > roomEnd - headAt) {
            throw new IllegalStateException("the log would need a 13th segment");
        }
    }

    // ---- entries and the index

    private static int segmentOf(int position) {
        return position / ENTRIES_PER_SEGMENT;
    }

    private int valueOf(int key) {
        return log.valueAt(index.find(key));
    }

    private boolean isLive(int position) {
        return index.find(log.keyAt(position)) == position;
    }

    private int liveFromTail(int count) {
        int end = tailAt + count;
        int found = 0;
        for (int position = tailAt; position < end; position++) {
            if (isLive(position)) {
                found++;
            }
        }
        return found;
    }

    /** Appends an entry where room is known to be; returns its position. */
    private int append(int key, int value) {
        int position = headAt;
        log.store(position, key, value);
        follow(index, position);
        headAt = position + 1;
        return position;
    }

    /** Brings an index up to date with one entry. */
    private void follow(Index target, int position) {
        boolean deleted = log.valueAt(position) == DELETED;
        target.point(log.keyAt(position), deleted ? NONE : position);
    }

    private void appendLiveAgain(int count) {
        int end = tailAt + count;
        for (int position = tailAt; position < end; position++) {
            if (isLive(position)) {
                append(log.keyAt(position), log.valueAt(position));
            }
        }
    }

    // ---- writes and power

    /** Writes the entries that are not written, one by one; tells whether the store is still up. */
    private boolean writeEntries() {
        int end = headAt;
        for (int position = writtenTo; position < end; position++) {
            if (!writeOnce()) {
                return false;
            }
            writtenTo = position + 1;
        }
        return true;
    }

    /** Tells whether one more write is done; if power fails at it, the store is down. */
    private boolean writeOnce() {
        if (writesAhead == 0) {
            writesAhead = NONE;
            losePower();
            return false;
        }
        if (writesAhead > 0) {
            writesAhead--;
        }
        return true;
    }

    private void losePower() {
        headAt = writtenTo;
        up = false;
    }

    /** Gives an index what a start would give it from what is kept. */
    private void recover(Index target) {
        target.takeFrom(checkpointIndex);
        target.dropBelow(tailAt);
        for (int position = Math.max(checkpointTo, tailAt); position < writtenTo; position++) {
            follow(target, position);
        }
    }

    /** For each key the position of an entry with a value of the key, or NONE. */
    private static final class Index {
        private final int[] positions;

        Index() {
            positions = new int[KEYS];
            Arrays.fill(positions, NONE);
        }

        int find(int key) {
            return key >= 0 && key < positions.length ? positions[key] : NONE;
        }

        boolean has(int key) {
            return find(key) != NONE;
        }

        void point(int key, int position) {
            if (key >= 0 && key < positions.length) {
                positions[key] = position;
            }
        }

        int size() {
            int count = 0;
            for (int key = 0; key < positions.length; key++) {
                if (positions[key] != NONE) {
                    count++;
                }
            }
            return count;
        }

        void takeFrom(Index other) {
            for (int key = 0; key < positions.length; key++) {
                positions[key] = other.find(key);
            }
        }

        void dropBelow(int position) {
            for (int key = 0; key < positions.length; key++) {
                if (positions[key] < position) {
                    positions[key] = NONE;
                }
            }
        }
    }

    /**
     * The entries of the segments in use. These are at most 12 in a row, so that no two positions in
     * them differ by 96 or more, and the slot at a position's remainder by 96 is its own.
     */
    private static final class Log {
        private final int[] keys;
        private final int[] values;

        Log() {
            keys = new int[MOST_ENTRIES];
            values = new int[MOST_ENTRIES];
        }

        void store(int position, int key, int value) {
            int slot = Math.floorMod(position, MOST_ENTRIES);
            if (slot >= 0 && slot < keys.length && slot < values.length) {
                keys[slot] = key;
                values[slot] = value;
            }
        }

        int keyAt(int position) {
            int slot = Math.floorMod(position, MOST_ENTRIES);
            return slot >= 0 && slot < keys.length ? keys[slot] : NONE;
        }

        int valueAt(int position) {
            int slot = Math.floorMod(position, MOST_ENTRIES);
            return slot >= 0 && slot < values.length ? values[slot] : NONE;
        }
    }
}
