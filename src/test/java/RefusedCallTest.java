import java.util.ArrayList;
import java.util.List;

/**
 * After a refused call, and after a question that has no answer, every method answers as its promise says. Each batch of
 * questions has an object of its own, so that none is used for more than 512 calls.
 */
public final class RefusedCallTest {
    private static final int BAD = -1;
    private static final int FULL = -2;
    private static final int MIN = Integer.MIN_VALUE;
    private static final int MAX = Integer.MAX_VALUE;

    private static void addRefusedOfNoKey(List<Call> calls) {
        int[] notKeys = {-1, 256, -256, 512, MIN, MAX};
        for (int key : notKeys) {
            calls.add(new Call("put(" + key + ", 77)", x -> x.put(key, 77), BAD));
            calls.add(new Call("remove(" + key + ")", x -> x.remove(key), BAD));
            calls.add(new Call("get(" + key + ")", x -> x.get(key), 0));
            calls.add(new Call("depthOf(" + key + ")", x -> x.depthOf(key), BAD));
            calls.add(new Call("load(" + key + ")", x -> x.load(key), BAD));
            calls.add(new Call("inBucket(" + key + ", 0)", x -> x.inBucket(key, 0), BAD));
            calls.add(new Call("together(" + key + ", 0)", x -> x.together(key, 0) ? 1 : 0, 0));
            calls.add(new Call("together(0, " + key + ")", x -> x.together(0, key) ? 1 : 0, 0));
            calls.add(new Call("growth(" + key + ")", x -> x.growth(key), BAD));
        }
    }

    private static void addRefusedOfNotThere(List<Call> calls, Model model, int key) {
        if (model.has(key) == 1) {
            return;
        }
        calls.add(new Call("remove(" + key + "), not there", x -> x.remove(key), BAD));
        if (model.size() == 40) {
            calls.add(new Call("put(" + key + ", 77), full", x -> x.put(key, 77), FULL));
        }
    }

    private static List<Call> refused(Model model) {
        List<Call> calls = new ArrayList<>();
        addRefusedOfNoKey(calls);
        calls.add(new Call("next(256)", x -> x.next(256), BAD));
        calls.add(new Call("ofDepth(-1)", x -> x.ofDepth(-1), 0));
        calls.add(new Call("ofDepth(7)", x -> x.ofDepth(7), 0));
        calls.add(new Call("inBucket(0, -1)", x -> x.inBucket(0, -1), BAD));
        calls.add(new Call("inBucket(0, 4)", x -> x.inBucket(0, 4), BAD));
        for (int key = 0; key <= 255; key += 5) {
            addRefusedOfNotThere(calls, model, key);
        }
        return calls;
    }

    /** Changes come last in a batch: the questions before them are about the state that the refused call left. */
    private static List<Call> changes(State state, int key) {
        Model model = state.model();
        List<Call> batch = new ArrayList<>();
        batch.add(new Call("put(" + key + ", 55)", x -> x.put(key, 55), model.put(key, 55)));
        batch.add(new Call("get(" + key + ") after put", x -> x.get(key), model.get(key)));
        batch.add(new Call("size() after put", SplitDirectory::size, model.size()));
        batch.add(new Call("remove(" + key + ")", x -> x.remove(key), model.remove(key)));
        batch.add(new Call("size() after remove", SplitDirectory::size, model.size()));
        batch.add(new Call("put(200, 56) after remove", x -> x.put(200, 56), model.put(200, 56)));
        batch.add(new Call("buckets() after all", SplitDirectory::buckets, model.buckets()));
        return batch;
    }

    private static List<List<Call>> batches(State state) {
        Model model = state.model();
        List<List<Call>> batches = new ArrayList<>();
        batches.add(Questions.aboutAll(model));
        for (int key = -1; key <= 256; key++) {
            List<Call> batch = Questions.aboutKey(model, key);
            batch.addAll(changes(state, key));
            batches.add(batch);
        }
        return batches;
    }

    private static void refusedThenAsked(State state) {
        List<List<Call>> batches = batches(state);
        for (Call call : refused(state.model())) {
            Due.says("A refused call changes nothing", state.name() + ", " + call.text());
            for (List<Call> batch : batches) {
                SplitDirectory x = state.object();
                call.make(x);
                call.make(x);
                Call.makeAll(x, batch);
            }
        }
    }

    /** All refused calls on one object, one after the other. */
    private static void allRefusedThenAsked(State state) {
        Due.says("A refused call changes nothing", state.name() + ", all refused calls in a row");
        List<Call> refused = refused(state.model());
        for (List<Call> batch : batches(state)) {
            SplitDirectory x = state.object();
            Call.makeAll(x, refused);
            Call.makeAll(x, batch);
        }
    }

    public static void main(String[] args) {
        for (State state : State.all()) {
            refusedThenAsked(state);
            allRefusedThenAsked(state);
        }
        Due.end();
    }
}
