import java.util.List;

/** The keys that are put in, and after them those that are taken out again. */
record State(String name, int[] in, int[] out) {
    static List<State> all() {
        int[] none = {};
        return List.of(
            new State("new", none, none),
            new State("one key", new int[] {255}, none),
            new State("four keys", new int[] {0, 64, 128, 192}, none),
            new State("five keys", new int[] {0, 64, 128, 192, 32}, none),
            new State("five keys with ones", new int[] {255, 191, 127, 31, 95}, none),
            new State("39 keys", steps(0, 1, 39), none),
            new State("40 keys", steps(0, 1, 40), none),
            new State("40 keys up to 255", steps(21, 6, 40), none),
            new State("40 keys in the most buckets", widest(), none),
            new State("40 keys, one more of which would split", fourEven(), none),
            new State("39 of 40 keys", widest(), new int[] {39}),
            new State("emptied", steps(0, 6, 40), steps(0, 6, 40)));
    }

    SplitDirectory object() {
        SplitDirectory x = new SplitDirectory();
        for (int key : in) {
            x.put(key, valueOf(key));
        }
        for (int key : out) {
            x.remove(key);
        }
        return x;
    }

    Model model() {
        Model model = new Model();
        for (int key : in) {
            model.put(key, valueOf(key));
        }
        for (int key : out) {
            model.remove(key);
        }
        return model;
    }

    private static int valueOf(int key) {
        return 3 * key - 100;
    }

    private static int[] steps(int first, int step, int count) {
        int[] keys = new int[count];
        for (int i = 0; i < count; i++) {
            keys[i] = first + i * step;
        }
        return keys;
    }

    /** Forty keys in the most buckets there can be. */
    private static int[] widest() {
        int[] keys = new int[40];
        for (int i = 0; i < 40; i++) {
            int part = i % 5;
            keys[i] = i / 5 + (part == 4 ? 32 : 64 * part);
        }
        return keys;
    }

    /** Forty keys: the four with the ending 000000, and the odd ones from 1 on. */
    private static int[] fourEven() {
        int[] keys = steps(1, 2, 40);
        for (int i = 0; i < 4; i++) {
            keys[i + 36] = i * 64;
        }
        return keys;
    }
}
