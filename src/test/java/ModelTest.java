/** Long runs of mixed calls, each answer held against a model that is worked out anew from the document's terms. */
public final class ModelTest {
    private static final int RUNS = 4000;

    // An object is promised to answer rightly for this many calls.
    private static final int CALLS = 512;
    private static final int SHOWN = 20;
    private static final int[] EDGES = {-1, 256, 0, 255, 257, -256, 1000, Integer.MIN_VALUE, Integer.MAX_VALUE};

    private static int wrong = 0;
    private static long seed = 1;

    /** A fixed sequence, so that every run of the tests makes the same calls. */
    private static int draw(int bound) {
        seed = seed * 6364136223846793005L + 1442695040888963407L;
        return (int) ((seed >>> 33) % bound);
    }

    /** Keys with the low digits in common go deep; runs differ in how many digits that are. */
    private static int drawKey(int shared, int ending) {
        int kind = draw(20);
        if (kind == 0) {
            return EDGES[draw(EDGES.length)];
        }
        if (kind <= 3) {
            return draw(256);
        }
        return ((draw(256) << shared) | ending) & 255;
    }

    private static void due(int run, int call, String name, int a, int b, int got, int want) {
        if (got != want) {
            wrong++;
            if (wrong <= SHOWN) {
                System.out.println("run " + run + ", call " + call + ": " + name + " with " + a + ", " + b
                    + " answered " + got + ", due is " + want);
            }
        }
    }

    private static void ask(SplitDirectory x, Model model, int run, int call, int key, int other) {
        int k = draw(12) == 0 ? EDGES[draw(EDGES.length)] : draw(6);
        int d = draw(12) == 0 ? EDGES[draw(EDGES.length)] : draw(10);
        switch (draw(12)) {
            case 0 -> due(run, call, "has", key, 0, x.has(key) ? 1 : 0, model.has(key));
            case 1 -> due(run, call, "get", key, 0, x.get(key), model.get(key));
            case 2 -> due(run, call, "size", 0, 0, x.size(), model.size());
            case 3 -> due(run, call, "buckets", 0, 0, x.buckets(), model.buckets());
            case 4 -> due(run, call, "deepest", 0, 0, x.deepest(), model.deepest());
            case 5 -> due(run, call, "depthOf", key, 0, x.depthOf(key), model.depthOf(key));
            case 6 -> due(run, call, "load", key, 0, x.load(key), model.load(key));
            case 7 -> due(run, call, "inBucket", key, k, x.inBucket(key, k), model.inBucket(key, k));
            case 8 -> due(run, call, "together", key, other, x.together(key, other) ? 1 : 0, model.together(key, other));
            case 9 -> due(run, call, "ofDepth", d, 0, x.ofDepth(d), model.ofDepth(d));
            case 10 -> due(run, call, "next", key, 0, x.next(key), model.next(key));
            default -> due(run, call, "growth", key, 0, x.growth(key), model.growth(key));
        }
    }

    private static void run(int run) {
        SplitDirectory x = new SplitDirectory();
        Model model = new Model();
        int shared = run % 7;
        int ending = draw(1 << shared);
        int phase = 0;
        for (int call = 0; call < CALLS; call++) {
            // Phases of mostly putting and mostly removing bring the object to full and back to nothing.
            if (call % 100 == 0) {
                phase = draw(3);
            }
            int key = drawKey(shared, ending);
            int kind = draw(10);
            if (kind < (phase == 0 ? 5 : phase == 1 ? 3 : 1)) {
                int value = draw(8) - 4;
                due(run, call, "put", key, value, x.put(key, value), model.put(key, value));
            } else if (kind < 6) {
                int there = model.next(key);
                int target = draw(4) == 0 || there < 0 ? key : there;
                due(run, call, "remove", target, 0, x.remove(target), model.remove(target));
            } else {
                int other = drawKey(shared, ending);
                ask(x, model, run, call, key, other);
            }
        }
    }

    public static void main(String[] args) {
        for (int run = 0; run < RUNS; run++) {
            run(run);
        }
        System.out.println(wrong == 0 ? "all answers are those of the model" : wrong + " answers are not those of the model");
        if (wrong != 0) {
            System.exit(1);
        }
    }
}
