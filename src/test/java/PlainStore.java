import java.util.ArrayList;
import java.util.HashSet;
import java.util.List;
import java.util.Map;
import java.util.Set;
import java.util.TreeMap;

/**
 * The document's words, said again as plainly as possible: every entry that was ever appended stays
 * in a list, and what is asked is counted over it. The random runs compare the program with it.
 */
final class PlainStore {
    private static final int NONE = -1;

    private record Entry(int key, int value, boolean deletes) {
    }

    /** Power has failed at a write. */
    private static final class PowerFailed extends Exception {
        private static final long serialVersionUID = 1L;
    }

    private final List<Entry> log = new ArrayList<>();
    private Map<Integer, Integer> index = new TreeMap<>();
    private Map<Integer, Integer> keptIndex = new TreeMap<>();
    private int keptPosition = 0;
    private int tail = 0;
    private int written = 0;
    private int failsIn = NONE;
    private boolean up = true;

    int put(int key, int value) {
        refuse(badKey(key) || value < 0 || value > 9999);
        needUp();
        append(new Entry(key, value, false));
        index.put(key, log.size() - 1);
        return log.size() - 1;
    }

    int delete(int key) {
        refuse(badKey(key));
        needUp();
        need(index.containsKey(key));
        int value = get(key);
        append(new Entry(key, 0, true));
        index.remove(key);
        return value;
    }

    int get(int key) {
        refuse(badKey(key));
        needUp();
        Integer position = index.get(key);
        return position == null ? NONE : log.get(position).value();
    }

    int next(int key) {
        refuse(badKey(key));
        needUp();
        for (int there : index.keySet()) {
            if (there >= key) {
                return there;
            }
        }
        return NONE;
    }

    int sum(int from, int to) {
        refuse(badKey(from) || badKey(to) || from > to);
        needUp();
        int sum = 0;
        for (int key : index.keySet()) {
            sum += key >= from && key <= to ? get(key) : 0;
        }
        return sum;
    }

    int fetches(int from, int to) {
        refuse(badKey(from) || badKey(to) || from > to);
        needUp();
        Set<Integer> segments = new HashSet<>();
        for (Map.Entry<Integer, Integer> there : index.entrySet()) {
            if (there.getKey() >= from && there.getKey() <= to) {
                segments.add(there.getValue() / 8);
            }
        }
        return segments.size();
    }

    boolean synchronize() {
        needUp();
        try {
            writeEntries();
        } catch (PowerFailed e) {
            lose();
        }
        return up;
    }

    boolean checkpoint() {
        needUp();
        try {
            writeEntries();
            write();
            keptIndex = new TreeMap<>(index);
            keptPosition = log.size();
        } catch (PowerFailed e) {
            lose();
        }
        return up;
    }

    boolean collect(int entries) {
        refuse(entries < 1 || entries > 96);
        needUp();
        need(log.size() - tail >= entries);
        List<Integer> alive = new ArrayList<>();
        for (int position = tail; position < tail + entries; position++) {
            if (index.containsValue(position)) {
                alive.add(position);
            }
        }
        need(alive.isEmpty() || segmentsFor(log.size() + alive.size()) <= 12);
        for (int position : alive) {
            log.add(log.get(position));
            index.put(log.get(position).key(), log.size() - 1);
        }
        try {
            writeEntries();
            write();
            tail += entries;
        } catch (PowerFailed e) {
            lose();
        }
        return up;
    }

    void failAfter(int writes) {
        refuse(writes < NONE || writes > 1000);
        failsIn = writes;
    }

    int crash() {
        needUp();
        int lost = log.size() - written;
        lose();
        return lost;
    }

    int start() {
        need(!up);
        index = recovered();
        up = true;
        return index.size();
    }

    boolean isUp() {
        return up;
    }

    int head() {
        return up ? log.size() : written;
    }

    int tail() {
        return tail;
    }

    int written() {
        return written;
    }

    int checkpointAt() {
        return keptPosition;
    }

    int positionOf(int key) {
        refuse(badKey(key));
        needUp();
        return index.getOrDefault(key, NONE);
    }

    int segments() {
        return segmentsFor(head());
    }

    int live() {
        needUp();
        int live = 0;
        for (int position = tail; position < head(); position++) {
            live += index.containsValue(position) ? 1 : 0;
        }
        return live;
    }

    int toFree() {
        int count = 0;
        for (int position = tail; position / 8 == tail / 8; position++) {
            if (position >= head()) {
                return NONE;
            }
            count++;
        }
        return count;
    }

    int wouldHave() {
        return recovered().size();
    }

    private int segmentsFor(int head) {
        Set<Integer> used = new HashSet<>();
        for (int position = tail; position < head; position++) {
            used.add(position / 8);
        }
        return used.size();
    }

    private void append(Entry entry) {
        need(segmentsFor(log.size() + 1) <= 12);
        log.add(entry);
    }

    private void writeEntries() throws PowerFailed {
        while (written < log.size()) {
            write();
            written++;
        }
    }

    private void write() throws PowerFailed {
        if (failsIn == 0) {
            failsIn = NONE;
            throw new PowerFailed();
        }
        if (failsIn != NONE) {
            failsIn--;
        }
    }

    private void lose() {
        while (log.size() > written) {
            log.remove(log.size() - 1);
        }
        index = new TreeMap<>();
        up = false;
    }

    private Map<Integer, Integer> recovered() {
        Map<Integer, Integer> result = new TreeMap<>();
        for (Map.Entry<Integer, Integer> kept : keptIndex.entrySet()) {
            if (kept.getValue() >= tail) {
                result.put(kept.getKey(), kept.getValue());
            }
        }
        for (int position = keptPosition > tail ? keptPosition : tail; position < written; position++) {
            Entry entry = log.get(position);
            if (entry.deletes()) {
                result.remove(entry.key());
            } else {
                result.put(entry.key(), position);
            }
        }
        return result;
    }

    private static boolean badKey(int key) {
        return key < 0 || key > 63;
    }

    private static void refuse(boolean badArgument) {
        if (badArgument) {
            throw new IllegalArgumentException();
        }
    }

    private static void need(boolean state) {
        if (!state) {
            throw new IllegalStateException();
        }
    }

    private void needUp() {
        need(up);
    }
}
