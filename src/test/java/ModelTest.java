import java.util.ArrayList;
import java.util.List;
import java.util.TreeMap;
import java.util.TreeSet;

/** Long runs of mixed calls, each answer held against a model that is worked out anew from the document's terms. */
public final class ModelTest {
    private static final int RUNS = 4000;

    // An object is promised to answer rightly for this many calls.
    private static final int CALLS = 512;
    private static final int SHOWN = 20;
    private static final int[] EDGES = {-1, 256, 0, 255, 257, -256, 1000, Integer.MIN_VALUE, Integer.MAX_VALUE};

    private static int wrong = 0;
    private static long seed = 1;

    /** The keys of one bucket, and the ending it belongs to. */
    private record Bucket(int depth, int ending, TreeSet<Integer> keys) {
        boolean hasEndingOf(int key) {
            return key % (1 << depth) == ending;
        }
    }

    /** The document's terms, word by word. */
    private static final class Model {
        private final TreeMap<Integer, Integer> values = new TreeMap<>();

        private static void tellApart(TreeSet<Integer> keys, int depth, int ending, List<Bucket> found) {
            if (keys.size() <= 4) {
                found.add(new Bucket(depth, ending, keys));
                return;
            }
            TreeSet<Integer> zeros = new TreeSet<>();
            TreeSet<Integer> ones = new TreeSet<>();
            for (int key : keys) {
                ((key >> depth) % 2 == 0 ? zeros : ones).add(key);
            }
            tellApart(zeros, depth + 1, ending, found);
            tellApart(ones, depth + 1, ending + (1 << depth), found);
        }

        private static List<Bucket> bucketsOf(TreeSet<Integer> keys) {
            List<Bucket> found = new ArrayList<>();
            tellApart(keys, 0, 0, found);
            return found;
        }

        private List<Bucket> all() {
            return bucketsOf(new TreeSet<>(values.keySet()));
        }

        private Bucket bucketFor(int key) {
            for (Bucket bucket : all()) {
                if (bucket.hasEndingOf(key)) {
                    return bucket;
                }
            }
            throw new IllegalStateException("no bucket for " + key);
        }

        private static boolean isKey(int key) {
            return 0 <= key && key <= 255;
        }

        int put(int key, int value) {
            if (!isKey(key)) {
                return -1;
            }
            if (!values.containsKey(key) && values.size() == 40) {
                return -2;
            }
            values.put(key, value);
            return all().size();
        }

        int remove(int key) {
            return values.remove(key) == null ? -1 : all().size();
        }

        int deepest() {
            return all().stream().mapToInt(Bucket::depth).max().getAsInt();
        }

        int depthOf(int key) {
            return isKey(key) ? bucketFor(key).depth() : -1;
        }

        int load(int key) {
            return isKey(key) ? bucketFor(key).keys().size() : -1;
        }

        int inBucket(int key, int k) {
            if (!isKey(key)) {
                return -1;
            }
            List<Integer> keys = new ArrayList<>(bucketFor(key).keys());
            return 0 <= k && k < keys.size() ? keys.get(k) : -1;
        }

        int together(int a, int b) {
            return isKey(a) && isKey(b) && bucketFor(a).hasEndingOf(b) ? 1 : 0;
        }

        int ofDepth(int d) {
            return (int) all().stream().filter(bucket -> bucket.depth() == d).count();
        }

        int next(int key) {
            Integer found = values.ceilingKey(key);
            return found == null ? -1 : found;
        }

        int growth(int key) {
            if (!isKey(key)) {
                return -1;
            }
            TreeSet<Integer> more = new TreeSet<>(values.keySet());
            more.add(key);
            return bucketsOf(more).size() - all().size();
        }
    }

    /** A fixed sequence, so that every run of the tests makes the same calls. */
    private static int draw(int bound) {
        seed = seed * 6364136223846793005L + 1442695040888963407L;
        return (int) ((seed >>> 33) % bound);
    }

    /** Keys with the low digits in common go deep; runs differ in how many digits that are. */
    private static int drawKey(int shared, int ending) {
        int kind = draw(20);
        if (kind == 0) {
            return EDGES[draw(EDGES.length)];
        }
        if (kind <= 3) {
            return draw(256);
        }
        return ((draw(256) << shared) | ending) & 255;
    }

    private static void due(int run, int call, String name, int a, int b, int got, int want) {
        if (got != want) {
            wrong++;
            if (wrong <= SHOWN) {
                System.out.println("run " + run + ", call " + call + ": " + name + " with " + a + ", " + b
                    + " answered " + got + ", due is " + want);
            }
        }
    }

    private static void ask(SplitDirectory x, Model model, int run, int call, int key, int other) {
        int k = draw(12) == 0 ? EDGES[draw(EDGES.length)] : draw(6);
        int d = draw(12) == 0 ? EDGES[draw(EDGES.length)] : draw(10);
        switch (draw(12)) {
            case 0 -> due(run, call, "has", key, 0, x.has(key) ? 1 : 0, model.values.containsKey(key) ? 1 : 0);
            case 1 -> due(run, call, "get", key, 0, x.get(key), model.values.getOrDefault(key, 0));
            case 2 -> due(run, call, "size", 0, 0, x.size(), model.values.size());
            case 3 -> due(run, call, "buckets", 0, 0, x.buckets(), model.all().size());
            case 4 -> due(run, call, "deepest", 0, 0, x.deepest(), model.deepest());
            case 5 -> due(run, call, "depthOf", key, 0, x.depthOf(key), model.depthOf(key));
            case 6 -> due(run, call, "load", key, 0, x.load(key), model.load(key));
            case 7 -> due(run, call, "inBucket", key, k, x.inBucket(key, k), model.inBucket(key, k));
            case 8 -> due(run, call, "together", key, other, x.together(key, other) ? 1 : 0, model.together(key, other));
            case 9 -> due(run, call, "ofDepth", d, 0, x.ofDepth(d), model.ofDepth(d));
            case 10 -> due(run, call, "next", key, 0, x.next(key), model.next(key));
            default -> due(run, call, "growth", key, 0, x.growth(key), model.growth(key));
        }
    }

    private static void run(int run) {
        SplitDirectory x = new SplitDirectory();
        Model model = new Model();
        int shared = run % 7;
        int ending = draw(1 << shared);
        int phase = 0;
        for (int call = 0; call < CALLS; call++) {
            // Phases of mostly putting and mostly removing bring the object to full and back to nothing.
            if (call % 100 == 0) {
                phase = draw(3);
            }
            int key = drawKey(shared, ending);
            int kind = draw(10);
            if (kind < (phase == 0 ? 5 : phase == 1 ? 3 : 1)) {
                int value = draw(8) - 4;
                due(run, call, "put", key, value, x.put(key, value), model.put(key, value));
            } else if (kind < 6) {
                int there = model.next(key);
                int target = draw(4) == 0 || there < 0 ? key : there;
                due(run, call, "remove", target, 0, x.remove(target), model.remove(target));
            } else {
                int other = drawKey(shared, ending);
                ask(x, model, run, call, key, other);
            }
        }
    }

    public static void main(String[] args) {
        for (int run = 0; run < RUNS; run++) {
            run(run);
        }
        System.out.println(wrong == 0 ? "all answers are those of the model" : wrong + " answers are not those of the model");
        if (wrong != 0) {
            System.exit(1);
        }
    }
}
