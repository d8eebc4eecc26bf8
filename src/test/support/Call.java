import java.util.List;
import java.util.function.ToIntFunction;

/** A call as it is told, how it is made, and the answer that is due; a boolean counts 1 or 0. */
record Call(String text, ToIntFunction<SplitDirectory> made, int want) {
    void make(SplitDirectory x) {
        Due.due(text, made.applyAsInt(x), want);
    }

    static void makeAll(SplitDirectory x, List<Call> calls) {
        for (Call call : calls) {
            call.make(x);
        }
    }
}
