/** Keeps values by key in buckets that split and come together as keys come and go. */
public final class SplitDirectory {
    public static final int BAD = -1;
    public static final int FULL = -2;

    private static final int KEYS = 256;
    private static final int MOST_KEYS = 40;
    private static final int MOST_IN_BUCKET = 4;

    // Only four keys share an ending of length 6, so no bucket is ever deeper.
    private static final int MOST_DEPTH = 6;

    // Endings are numbered 2^length + digits, so that each has its own number from 1 on.
    private static final int ENDINGS = 128;

    // From this number on the endings have length 6 and can't hold more than four keys.
    private static final int FIRST_UNSPLIT = 64;

    private final boolean[] there = new boolean[KEYS];
    private final int[] values = new int[KEYS];
    private final int[] keysWithEnding = new int[ENDINGS];

    public SplitDirectory() {
    }

    public int put(int key, int value) {
        if (!isKey(key)) {
            return BAD;
        }
        if (!there[key]) {
            if (size() >= MOST_KEYS) {
                return FULL;
            }
            there[key] = true;
            countKey(key, 1);
        }
        values[key] = value;
        return buckets();
    }

    public int remove(int key) {
        if (!has(key)) {
            return BAD;
        }
        there[key] = false;
        countKey(key, -1);
        return buckets();
    }

    public boolean has(int key) {
        return isKey(key) && there[key];
    }

    public int get(int key) {
        return has(key) ? values[key] : 0;
    }

    public int size() {
        // The empty ending is the one that all keys have.
        int empty = endingOf(0, 0);
        return keysWithEnding[empty];
    }

    public int buckets() {
        // Telling the keys of one ending apart puts two buckets in the place of one.
        int count = 1;
        for (int ending = 1; ending < FIRST_UNSPLIT; ending++) {
            if (keysWithEnding[ending] > MOST_IN_BUCKET) {
                count++;
            }
        }
        return count;
    }

    public int deepest() {
        int greatest = 0;
        for (int d = 0; d <= MOST_DEPTH; d++) {
            if (ofDepth(d) > 0) {
                greatest = d;
            }
        }
        return greatest;
    }

    public int depthOf(int key) {
        return isKey(key) ? bucketDepth(key) : BAD;
    }

    public int load(int key) {
        if (!isKey(key)) {
            return BAD;
        }
        int depth = bucketDepth(key);
        int ending = endingOf(key, depth);
        return keysWithEnding[ending];
    }

    public int inBucket(int key, int k) {
        if (!isKey(key)) {
            return BAD;
        }
        int depth = bucketDepth(key);
        int less = 0;
        for (int other = 0; other < KEYS; other++) {
            if (there[other] && sameEnding(key, other, depth)) {
                if (less == k) {
                    return other;
                }
                less++;
            }
        }
        return BAD;
    }

    public boolean together(int a, int b) {
        if (!isKey(a) || !isKey(b)) {
            return false;
        }
        int depth = bucketDepth(a);
        return sameEnding(a, b, depth);
    }

    public int ofDepth(int d) {
        if (d < 0 || d > MOST_DEPTH) {
            return 0;
        }
        // The keys below 2^d have each ending of length d once.
        int count = 0;
        for (int key = 0; key < (1 << d); key++) {
            if (bucketDepth(key) == d) {
                count++;
            }
        }
        return count;
    }

    public int next(int key) {
        int from = key < 0 ? 0 : key;
        for (int other = from; other < KEYS; other++) {
            if (there[other]) {
                return other;
            }
        }
        return BAD;
    }

    public int growth(int key) {
        if (!isKey(key)) {
            return BAD;
        }
        if (there[key]) {
            return 0;
        }
        // One key more splits just those of its endings that are full and not yet split.
        int splits = 0;
        for (int depth = 0; depth < MOST_DEPTH; depth++) {
            int ending = endingOf(key, depth);
            if (keysWithEnding[ending] == MOST_IN_BUCKET) {
                splits++;
            }
        }
        return splits;
    }

    private static boolean isKey(int key) {
        return key >= 0 && key < KEYS;
    }

    private static int endingOf(int key, int depth) {
        int first = 1 << depth;
        return first | (key & (first - 1));
    }

    private static boolean sameEnding(int a, int b, int depth) {
        return endingOf(a, depth) == endingOf(b, depth);
    }

    private void countKey(int key, int change) {
        for (int depth = 0; depth <= MOST_DEPTH; depth++) {
            int ending = endingOf(key, depth);
            keysWithEnding[ending] += change;
        }
    }

    private int bucketDepth(int key) {
        for (int depth = 0; depth < MOST_DEPTH; depth++) {
            int ending = endingOf(key, depth);
            if (keysWithEnding[ending] <= MOST_IN_BUCKET) {
                return depth;
            }
        }
        return MOST_DEPTH;
    }
}
