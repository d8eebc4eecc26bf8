import java.util.ArrayList;
import java.util.List;

/** The calls that change nothing, with the answers that the model gives. */
final class Questions {
    private static final int[] SOME_KEYS = {-1, 0, 1, 32, 64, 100, 192, 255, 256};

    private Questions() {
    }

    static List<Call> aboutAll(Model model) {
        List<Call> calls = new ArrayList<>();
        calls.add(new Call("size()", SplitDirectory::size, model.size()));
        calls.add(new Call("buckets()", SplitDirectory::buckets, model.buckets()));
        calls.add(new Call("deepest()", SplitDirectory::deepest, model.deepest()));
        for (int d = -1; d <= 9; d++) {
            int depth = d;
            calls.add(new Call("ofDepth(" + d + ")", x -> x.ofDepth(depth), model.ofDepth(d)));
        }
        return calls;
    }

    static List<Call> aboutKey(Model model, int key) {
        List<Call> calls = new ArrayList<>();
        calls.add(new Call("has(" + key + ")", x -> x.has(key) ? 1 : 0, model.has(key)));
        calls.add(get(model, key));
        calls.add(depthOf(model, key));
        calls.add(load(model, key));
        calls.add(next(model, key));
        calls.add(growth(model, key));
        for (int k = -1; k <= 4; k++) {
            int place = k;
            calls.add(new Call("inBucket(" + key + ", " + k + ")", x -> x.inBucket(key, place), model.inBucket(key, k)));
        }
        for (int other : SOME_KEYS) {
            calls.add(new Call("together(" + key + ", " + other + ")",
                x -> x.together(key, other) ? 1 : 0, model.together(key, other)));
        }
        return calls;
    }

    /** So few that an object can be made and asked them within its 512 calls, and yet no two states answer all alike. */
    static List<Call> thatTellTheState(Model model) {
        List<Call> calls = aboutAll(model);
        calls.add(next(model, 0));
        for (int key = model.next(0); key >= 0; key = model.next(key + 1)) {
            calls.add(get(model, key));
            calls.add(next(model, key + 1));
        }
        // No bucket is deeper than 6, so these 64 keys reach each of them.
        for (int key = 0; key < 64; key++) {
            calls.add(depthOf(model, key));
            calls.add(load(model, key));
            calls.add(growth(model, key));
        }
        return calls;
    }

    private static Call get(Model model, int key) {
        return new Call("get(" + key + ")", x -> x.get(key), model.get(key));
    }

    private static Call depthOf(Model model, int key) {
        return new Call("depthOf(" + key + ")", x -> x.depthOf(key), model.depthOf(key));
    }

    private static Call load(Model model, int key) {
        return new Call("load(" + key + ")", x -> x.load(key), model.load(key));
    }

    private static Call next(Model model, int key) {
        return new Call("next(" + key + ")", x -> x.next(key), model.next(key));
    }

    private static Call growth(Model model, int key) {
        return new Call("growth(" + key + ")", x -> x.growth(key), model.growth(key));
    }
}
