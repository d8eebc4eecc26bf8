import java.util.ArrayList;
import java.util.List;
import java.util.function.ToIntFunction;

/**
 * After a refused call, and after a question that has no answer, every method answers as its promise says. Each batch of
 * questions has an object of its own, so that none is used for more than 512 calls.
 */
public final class RefusedCallTest {
    private static final int BAD = -1;
    private static final int FULL = -2;
    private static final int MIN = Integer.MIN_VALUE;
    private static final int MAX = Integer.MAX_VALUE;
    private static final int[] SOME_KEYS = {-1, 0, 1, 32, 64, 100, 192, 255, 256};

    /** A call as it is told, how it is made, and the answer that is due; a boolean counts 1 or 0. */
    private record Call(String text, ToIntFunction<SplitDirectory> made, int want) {
    }

    /** The keys that are put in, and after them those that are taken out again. */
    private record State(String name, int[] in, int[] out) {
        SplitDirectory object() {
            SplitDirectory x = new SplitDirectory();
            for (int key : in) {
                x.put(key, valueOf(key));
            }
            for (int key : out) {
                x.remove(key);
            }
            return x;
        }

        Model model() {
            Model model = new Model();
            for (int key : in) {
                model.put(key, valueOf(key));
            }
            for (int key : out) {
                model.remove(key);
            }
            return model;
        }

        private static int valueOf(int key) {
            return 3 * key - 100;
        }
    }

    private static int[] steps(int first, int step, int count) {
        int[] keys = new int[count];
        for (int i = 0; i < count; i++) {
            keys[i] = first + i * step;
        }
        return keys;
    }

    /** Forty keys in the most buckets there can be. */
    private static int[] widest() {
        int[] keys = new int[40];
        for (int i = 0; i < 40; i++) {
            int part = i % 5;
            keys[i] = i / 5 + (part == 4 ? 32 : 64 * part);
        }
        return keys;
    }

    /** Forty keys: the four with the ending 000000, and the odd ones from 1 on. */
    private static int[] fourEven() {
        int[] keys = steps(1, 2, 40);
        for (int i = 0; i < 4; i++) {
            keys[i + 36] = i * 64;
        }
        return keys;
    }

    private static List<State> states() {
        int[] none = {};
        return List.of(
            new State("new", none, none),
            new State("one key", new int[] {255}, none),
            new State("four keys", new int[] {0, 64, 128, 192}, none),
            new State("five keys", new int[] {0, 64, 128, 192, 32}, none),
            new State("five keys with ones", new int[] {255, 191, 127, 31, 95}, none),
            new State("39 keys", steps(0, 1, 39), none),
            new State("40 keys", steps(0, 1, 40), none),
            new State("40 keys up to 255", steps(21, 6, 40), none),
            new State("40 keys in the most buckets", widest(), none),
            new State("40 keys, one more of which would split", fourEven(), none),
            new State("39 of 40 keys", widest(), new int[] {39}),
            new State("emptied", steps(0, 6, 40), steps(0, 6, 40)));
    }

    private static void addRefusedOfNoKey(List<Call> calls) {
        int[] notKeys = {-1, 256, -256, 512, MIN, MAX};
        for (int key : notKeys) {
            calls.add(new Call("put(" + key + ", 77)", x -> x.put(key, 77), BAD));
            calls.add(new Call("remove(" + key + ")", x -> x.remove(key), BAD));
            calls.add(new Call("get(" + key + ")", x -> x.get(key), 0));
            calls.add(new Call("depthOf(" + key + ")", x -> x.depthOf(key), BAD));
            calls.add(new Call("load(" + key + ")", x -> x.load(key), BAD));
            calls.add(new Call("inBucket(" + key + ", 0)", x -> x.inBucket(key, 0), BAD));
            calls.add(new Call("together(" + key + ", 0)", x -> x.together(key, 0) ? 1 : 0, 0));
            calls.add(new Call("together(0, " + key + ")", x -> x.together(0, key) ? 1 : 0, 0));
            calls.add(new Call("growth(" + key + ")", x -> x.growth(key), BAD));
        }
    }

    private static void addRefusedOfNotThere(List<Call> calls, Model model, int key) {
        if (model.has(key) == 1) {
            return;
        }
        calls.add(new Call("remove(" + key + "), not there", x -> x.remove(key), BAD));
        if (model.size() == 40) {
            calls.add(new Call("put(" + key + ", 77), full", x -> x.put(key, 77), FULL));
        }
    }

    private static List<Call> refused(Model model) {
        List<Call> calls = new ArrayList<>();
        addRefusedOfNoKey(calls);
        calls.add(new Call("next(256)", x -> x.next(256), BAD));
        calls.add(new Call("ofDepth(-1)", x -> x.ofDepth(-1), 0));
        calls.add(new Call("ofDepth(7)", x -> x.ofDepth(7), 0));
        calls.add(new Call("inBucket(0, -1)", x -> x.inBucket(0, -1), BAD));
        calls.add(new Call("inBucket(0, 4)", x -> x.inBucket(0, 4), BAD));
        for (int key = 0; key <= 255; key += 5) {
            addRefusedOfNotThere(calls, model, key);
        }
        return calls;
    }

    private static List<Call> wholeQuestions(Model model) {
        List<Call> batch = new ArrayList<>();
        batch.add(new Call("size()", SplitDirectory::size, model.size()));
        batch.add(new Call("buckets()", SplitDirectory::buckets, model.buckets()));
        batch.add(new Call("deepest()", SplitDirectory::deepest, model.deepest()));
        for (int d = -1; d <= 9; d++) {
            int depth = d;
            batch.add(new Call("ofDepth(" + d + ")", x -> x.ofDepth(depth), model.ofDepth(d)));
        }
        return batch;
    }

    private static List<Call> keyQuestions(Model model, int key) {
        List<Call> batch = new ArrayList<>();
        batch.add(new Call("has(" + key + ")", x -> x.has(key) ? 1 : 0, model.has(key)));
        batch.add(new Call("get(" + key + ")", x -> x.get(key), model.get(key)));
        batch.add(new Call("depthOf(" + key + ")", x -> x.depthOf(key), model.depthOf(key)));
        batch.add(new Call("load(" + key + ")", x -> x.load(key), model.load(key)));
        batch.add(new Call("next(" + key + ")", x -> x.next(key), model.next(key)));
        batch.add(new Call("growth(" + key + ")", x -> x.growth(key), model.growth(key)));
        for (int k = -1; k <= 4; k++) {
            int place = k;
            batch.add(new Call("inBucket(" + key + ", " + k + ")", x -> x.inBucket(key, place), model.inBucket(key, k)));
        }
        for (int other : SOME_KEYS) {
            batch.add(new Call("together(" + key + ", " + other + ")",
                x -> x.together(key, other) ? 1 : 0, model.together(key, other)));
        }
        return batch;
    }

    /** Changes come last in a batch: the questions before them are about the state that the refused call left. */
    private static List<Call> changes(State state, int key) {
        Model model = state.model();
        List<Call> batch = new ArrayList<>();
        batch.add(new Call("put(" + key + ", 55)", x -> x.put(key, 55), model.put(key, 55)));
        batch.add(new Call("get(" + key + ") after put", x -> x.get(key), model.get(key)));
        batch.add(new Call("size() after put", SplitDirectory::size, model.size()));
        batch.add(new Call("remove(" + key + ")", x -> x.remove(key), model.remove(key)));
        batch.add(new Call("size() after remove", SplitDirectory::size, model.size()));
        batch.add(new Call("put(200, 56) after remove", x -> x.put(200, 56), model.put(200, 56)));
        batch.add(new Call("buckets() after all", SplitDirectory::buckets, model.buckets()));
        return batch;
    }

    private static List<List<Call>> batches(State state) {
        Model model = state.model();
        List<List<Call>> batches = new ArrayList<>();
        batches.add(wholeQuestions(model));
        for (int key = -1; key <= 256; key++) {
            List<Call> batch = keyQuestions(model, key);
            batch.addAll(changes(state, key));
            batches.add(batch);
        }
        return batches;
    }

    private static void ask(SplitDirectory x, List<Call> batch) {
        for (Call call : batch) {
            Due.due(call.text(), call.made().applyAsInt(x), call.want());
        }
    }

    private static void refusedThenAsked(State state) {
        List<List<Call>> batches = batches(state);
        for (Call call : refused(state.model())) {
            Due.says("A refused call changes nothing", state.name() + ", " + call.text());
            for (List<Call> batch : batches) {
                SplitDirectory x = state.object();
                Due.due("the refused call", call.made().applyAsInt(x), call.want());
                Due.due("the refused call again", call.made().applyAsInt(x), call.want());
                ask(x, batch);
            }
        }
    }

    /** All refused calls on one object, one after the other. */
    private static void allRefusedThenAsked(State state) {
        Due.says("A refused call changes nothing", state.name() + ", all refused calls in a row");
        List<Call> refused = refused(state.model());
        for (List<Call> batch : batches(state)) {
            SplitDirectory x = state.object();
            ask(x, refused);
            ask(x, batch);
        }
    }

    public static void main(String[] args) {
        for (State state : states()) {
            refusedThenAsked(state);
            allRefusedThenAsked(state);
        }
        Due.end();
    }
}
