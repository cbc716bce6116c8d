/** A store for at most six backups of at most 96 bytes each; see README.md. */
public final class SimilarDelta {
    public static final int STAGE_FULL = -1;
    public static final int BAD_SLOT = -2;
    public static final int SLOT_USED = -3;
    public static final int NO_BACKUP = -4;
    public static final int BAD_PLACE = -5;

    private static final int SLOTS = 6;
    private static final int CAPACITY = 96;
    private static final int STORE_SIZE = SLOTS * CAPACITY;
    private static final int BYTE_MASK = 255;
    private static final int SUM_START = 7;
    private static final int SUM_FACTOR = 131;

    private final int[] stage = new int[CAPACITY];
    private int stageSize = 0;

    // Every slot owns a full-size part of the store, so that no backup depends on another one.
    private final int[] store = new int[STORE_SIZE];
    private final int[] backupSize = new int[SLOTS];
    // An empty backup is a backup too, so a size of 0 cannot stand for an unused slot.
    private final boolean[] used = new boolean[SLOTS];

    public SimilarDelta() {
    }

    public void begin() {
        stageSize = 0;
    }

    public int feed(int b) {
        if (!stageHasRoom(1)) {
            return STAGE_FULL;
        }
        append(b);
        return stageSize;
    }

    public int feedRun(int first, int step, int n) {
        int count = n < 0 ? 0 : n;
        if (!stageHasRoom(count)) {
            return STAGE_FULL;
        }
        for (int i = 0; i < count; i++) {
            append(first + i * step);
        }
        return stageSize;
    }

    public int feedFrom(int slot, int from, int n) {
        int size = sizeOrRefusal(slot);
        if (size < 0) {
            return size;
        }
        if (!isRange(from, n, size)) {
            return BAD_PLACE;
        }
        if (!stageHasRoom(n)) {
            return STAGE_FULL;
        }
        int start = slot * CAPACITY + from;
        for (int i = 0; i < n; i++) {
            append(store[start + i]);
        }
        return stageSize;
    }

    public int poke(int at, int b) {
        if (!isIndex(at, stageSize)) {
            return BAD_PLACE;
        }
        int before = stage[at];
        stage[at] = b & BYTE_MASK;
        return before;
    }

    public int insert(int at, int b) {
        if (at < 0 || at > stageSize) {
            return BAD_PLACE;
        }
        if (!stageHasRoom(1)) {
            return STAGE_FULL;
        }
        // From the end down, so that no byte is overwritten before it has moved.
        for (int i = stageSize; i > at; i--) {
            stage[i] = stage[i - 1];
        }
        stage[at] = b & BYTE_MASK;
        stageSize++;
        return stageSize;
    }

    public int cut(int at, int n) {
        if (!isRange(at, n, stageSize)) {
            return BAD_PLACE;
        }
        for (int i = at + n; i < stageSize; i++) {
            stage[i - n] = stage[i];
        }
        stageSize -= n;
        return stageSize;
    }

    public int save(int slot) {
        if (!isIndex(slot, SLOTS)) {
            return BAD_SLOT;
        }
        if (used[slot]) {
            return SLOT_USED;
        }
        int start = slot * CAPACITY;
        for (int i = 0; i < stageSize; i++) {
            store[start + i] = stage[i];
        }
        backupSize[slot] = stageSize;
        used[slot] = true;
        return stageSize;
    }

    public int drop(int slot) {
        int size = sizeOrRefusal(slot);
        if (size >= 0) {
            used[slot] = false;
        }
        return size;
    }

    public int stageLength() {
        return stageSize;
    }

    public int stageByte(int at) {
        return isIndex(at, stageSize) ? stage[at] : BAD_PLACE;
    }

    public int length(int slot) {
        return sizeOrRefusal(slot);
    }

    public int byteAt(int slot, int at) {
        int size = sizeOrRefusal(slot);
        if (size < 0) {
            return size;
        }
        return isIndex(at, size) ? store[slot * CAPACITY + at] : BAD_PLACE;
    }

    public int sum(int slot) {
        int size = sizeOrRefusal(slot);
        if (size < 0) {
            return 0;
        }
        int start = slot * CAPACITY;
        int number = SUM_START;
        for (int i = 0; i < size; i++) {
            number = number * SUM_FACTOR + store[start + i];
        }
        return number;
    }

    public int commonStart(int slotA, int slotB) {
        int sizeA = sizeOrRefusal(slotA);
        int sizeB = sizeOrRefusal(slotB);
        // A bad slot counts before a missing backup, whichever of the two slots it is.
        if (sizeA == BAD_SLOT || sizeB == BAD_SLOT) {
            return BAD_SLOT;
        }
        if (sizeA < 0 || sizeB < 0) {
            return NO_BACKUP;
        }
        int shorter = sizeA < sizeB ? sizeA : sizeB;
        int startA = slotA * CAPACITY;
        int startB = slotB * CAPACITY;
        for (int i = 0; i < shorter; i++) {
            if (store[startA + i] != store[startB + i]) {
                return i;
            }
        }
        return shorter;
    }

    // All refusals are negative and all sizes are not, so one number can carry either.
    private int sizeOrRefusal(int slot) {
        if (!isIndex(slot, SLOTS)) {
            return BAD_SLOT;
        }
        return used[slot] ? backupSize[slot] : NO_BACKUP;
    }

    // Callers have made sure that the stage has room.
    private void append(int b) {
        stage[stageSize] = b & BYTE_MASK;
        stageSize++;
    }

    // Subtracts because a sum with a huge count would wrap.
    private boolean stageHasRoom(int count) {
        return count <= CAPACITY - stageSize;
    }

    private static boolean isIndex(int at, int size) {
        return at >= 0 && at < size;
    }

    // Subtracts because the sum of a huge place and a huge count would wrap.
    private static boolean isRange(int at, int n, int size) {
        return at >= 0 && n >= 0 && at <= size - n;
    }
}
