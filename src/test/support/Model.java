import java.util.ArrayList;
import java.util.List;
import java.util.TreeMap;
import java.util.TreeSet;

/** The document's terms, word by word, worked out anew for every answer; a boolean counts 1 or 0. */
final class Model {
    /** The keys of one bucket, and the ending it belongs to. */
    private record Bucket(int depth, int ending, TreeSet<Integer> keys) {
        boolean hasEndingOf(int key) {
            return key % (1 << depth) == ending;
        }
    }

    private final TreeMap<Integer, Integer> values = new TreeMap<>();

    private static void tellApart(TreeSet<Integer> keys, int depth, int ending, List<Bucket> found) {
        if (keys.size() <= 4) {
            found.add(new Bucket(depth, ending, keys));
            return;
        }
        TreeSet<Integer> zeros = new TreeSet<>();
        TreeSet<Integer> ones = new TreeSet<>();
        for (int key : keys) {
            ((key >> depth) % 2 == 0 ? zeros : ones).add(key);
        }
        tellApart(zeros, depth + 1, ending, found);
        tellApart(ones, depth + 1, ending + (1 << depth), found);
    }

    private static List<Bucket> bucketsOf(TreeSet<Integer> keys) {
        List<Bucket> found = new ArrayList<>();
        tellApart(keys, 0, 0, found);
        return found;
    }

    private List<Bucket> all() {
        return bucketsOf(new TreeSet<>(values.keySet()));
    }

    private Bucket bucketFor(int key) {
        for (Bucket bucket : all()) {
            if (bucket.hasEndingOf(key)) {
                return bucket;
            }
        }
        throw new IllegalStateException("no bucket for " + key);
    }

    private static boolean isKey(int key) {
        return 0 <= key && key <= 255;
    }

    int put(int key, int value) {
        if (!isKey(key)) {
            return -1;
        }
        if (!values.containsKey(key) && values.size() == 40) {
            return -2;
        }
        values.put(key, value);
        return all().size();
    }

    int remove(int key) {
        return values.remove(key) == null ? -1 : all().size();
    }

    int has(int key) {
        return values.containsKey(key) ? 1 : 0;
    }

    int get(int key) {
        return values.getOrDefault(key, 0);
    }

    int size() {
        return values.size();
    }

    int buckets() {
        return all().size();
    }

    int deepest() {
        return all().stream().mapToInt(Bucket::depth).max().getAsInt();
    }

    int depthOf(int key) {
        return isKey(key) ? bucketFor(key).depth() : -1;
    }

    int load(int key) {
        return isKey(key) ? bucketFor(key).keys().size() : -1;
    }

    int inBucket(int key, int k) {
        if (!isKey(key)) {
            return -1;
        }
        List<Integer> keys = new ArrayList<>(bucketFor(key).keys());
        return 0 <= k && k < keys.size() ? keys.get(k) : -1;
    }

    int together(int a, int b) {
        return isKey(a) && isKey(b) && bucketFor(a).hasEndingOf(b) ? 1 : 0;
    }

    int ofDepth(int d) {
        return (int) all().stream().filter(bucket -> bucket.depth() == d).count();
    }

    int next(int key) {
        Integer found = values.ceilingKey(key);
        return found == null ? -1 : found;
    }

    int growth(int key) {
        if (!isKey(key)) {
            return -1;
        }
        TreeSet<Integer> more = new TreeSet<>(values.keySet());
        more.add(key);
        return bucketsOf(more).size() - all().size();
    }
}
