import java.util.ArrayList;
import java.util.List;

/** Only put and remove change anything, and only in the object that they are made on. */
public final class StateChangeTest {
    private static List<Call> allQuestions(Model model) {
        List<Call> calls = new ArrayList<>(Questions.aboutAll(model));
        for (int key = -1; key <= 256; key++) {
            calls.addAll(Questions.aboutKey(model, key));
        }
        return calls;
    }

    private static void questionsChangeNothing(State state) {
        Model model = state.model();
        List<Call> telling = Questions.thatTellTheState(model);
        for (Call question : allQuestions(model)) {
            Due.says("A question changes nothing", state.name() + ", " + question.text());
            SplitDirectory x = state.object();
            question.make(x);
            question.make(x);
            Call.makeAll(x, telling);
        }
    }

    /** Makes the second object after the first, and gives what it has in common with the first another value. */
    private static void objectsAreApart(State first, State second) {
        Due.says("An object has keys and values of its own", first.name() + ", beside " + second.name());
        SplitDirectory x = first.object();
        SplitDirectory y = second.object();
        Model changed = second.model();
        int last = -1;
        for (int key = changed.next(0); key >= 0; key = changed.next(key + 1)) {
            int value = -1000 - key;
            Due.due("put(" + key + ", " + value + ")", y.put(key, value), changed.put(key, value));
            last = key;
        }
        Due.due("remove(" + last + ")", y.remove(last), changed.remove(last));
        Call.makeAll(x, Questions.thatTellTheState(first.model()));
        Call.makeAll(y, Questions.thatTellTheState(changed));
    }

    public static void main(String[] args) {
        for (State state : State.all()) {
            questionsChangeNothing(state);
            for (State other : State.all()) {
                objectsAreApart(state, other);
            }
        }
        Due.end();
    }
}
