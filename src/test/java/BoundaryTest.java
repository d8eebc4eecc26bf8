/**
 * Each sentence of the document that names a boundary case has a test of its own: at the boundary, and at both sides of
 * it where it has two. No object here is used for more than 512 calls.
 */
public final class BoundaryTest {
    private static final int BAD = -1;
    private static final int FULL = -2;
    private static final int MIN = Integer.MIN_VALUE;
    private static final int MAX = Integer.MAX_VALUE;

    // Beside the nearest ones, those that come out as a key when cut to eight digits or when a sign is lost.
    private static final int[] NOT_KEYS = {
        -1, 256, -2, 257, -255, -256, -257, 511, 512, 1 << 16, 1 << 30, MIN, MIN + 1, MIN + 255, MAX, MAX - 1, MAX - 255};

    private static SplitDirectory with(int... keys) {
        SplitDirectory x = new SplitDirectory();
        for (int key : keys) {
            x.put(key, key + 1000);
        }
        return x;
    }

    /** The keys from first on, each a step above the one before. */
    private static SplitDirectory withSteps(int first, int step, int count) {
        SplitDirectory x = new SplitDirectory();
        for (int i = 0; i < count; i++) {
            int key = first + i * step;
            x.put(key, key + 1000);
        }
        return x;
    }

    /** Four keys with the ending 000000 and one with 100000: one bucket each of depth 1 to 5, all empty, two of depth 6. */
    private static SplitDirectory deep() {
        return with(0, 64, 128, 192, 32);
    }

    /** The most buckets there can be: each of the eight endings of length 3 has five keys that differ only at depth 6. */
    private static SplitDirectory widest() {
        SplitDirectory x = new SplitDirectory();
        for (int ending = 0; ending < 8; ending++) {
            for (int upper = 0; upper < 256; upper += 64) {
                x.put(ending + upper, ending);
            }
            x.put(ending + 32, ending);
        }
        return x;
    }

    // What it is

    private static void lastOfTheCalls() {
        Due.says("What it is", "An object is used for at most 512 calls after it has been made");
        SplitDirectory x = with(0, 64, 128, 192);
        for (int call = 5; call <= 512; call++) {
            boolean put = call % 2 == 1;
            Due.due("call " + call, put ? x.put(32, call) : x.remove(32), put ? 7 : 1);
        }
        SplitDirectory refused = withSteps(0, 1, 40);
        for (int call = 41; call <= 511; call++) {
            Due.due("put(40, 1) as call " + call, refused.put(40, 1), FULL);
        }
        Due.due("buckets() as call 512", refused.buckets(), 16);
    }

    // Terms

    private static void keyOfTheRange(int key) {
        SplitDirectory x = new SplitDirectory();
        Due.due("put(" + key + ", 7)", x.put(key, 7), 1);
        Due.due("has(" + key + ")", x.has(key), true);
        Due.due("get(" + key + ")", x.get(key), 7);
        Due.due("size()", x.size(), 1);
        Due.due("depthOf(" + key + ")", x.depthOf(key), 0);
        Due.due("load(" + key + ")", x.load(key), 1);
        Due.due("inBucket(" + key + ", 0)", x.inBucket(key, 0), key);
        Due.due("together(" + key + ", 0)", x.together(key, 0), true);
        Due.due("together(255, " + key + ")", x.together(255, key), true);
        Due.due("next(" + key + ")", x.next(key), key);
        Due.due("growth(" + key + ")", x.growth(key), 0);
        Due.due("remove(" + key + ")", x.remove(key), 1);
        Due.due("has(" + key + ") when out", x.has(key), false);
        Due.due("growth(" + key + ") when out", x.growth(key), 0);
    }

    private static void noKey(SplitDirectory x, int key, int size) {
        Due.due("put(" + key + ", 7)", x.put(key, 7), BAD);
        Due.due("has(" + key + ")", x.has(key), false);
        Due.due("get(" + key + ")", x.get(key), 0);
        Due.due("depthOf(" + key + ")", x.depthOf(key), BAD);
        Due.due("load(" + key + ")", x.load(key), BAD);
        Due.due("inBucket(" + key + ", 0)", x.inBucket(key, 0), BAD);
        Due.due("together(" + key + ", 0)", x.together(key, 0), false);
        Due.due("together(255, " + key + ")", x.together(255, key), false);
        Due.due("growth(" + key + ")", x.growth(key), BAD);
        Due.due("remove(" + key + ")", x.remove(key), BAD);
        Due.due("size()", x.size(), size);
    }

    private static void keys() {
        Due.says("Terms", "KEYS are 0 .. 255");
        for (int key = 0; key <= 255; key++) {
            keyOfTheRange(key);
        }
        for (int key : NOT_KEYS) {
            noKey(new SplitDirectory(), key, 0);
            noKey(with(0, 1, 254, 255), key, 4);
            noKey(deep(), key, 5);
        }
    }

    private static void anyValue() {
        Due.says("Terms", "every key has a value (an int) or is not there");
        int[] values = {0, 1, -1, -2, 255, 256, MIN, MIN + 1, MAX, MAX - 1};
        SplitDirectory x = new SplitDirectory();
        for (int value : values) {
            Due.due("put(255, " + value + ")", x.put(255, value), 1);
            Due.due("get(255)", x.get(255), value);
            Due.due("has(255) with the value " + value, x.has(255), true);
            Due.due("size() with the value " + value, x.size(), 1);
            Due.due("next(0) with the value " + value, x.next(0), 255);
        }
        x.remove(255);
        Due.due("has(255) when out", x.has(255), false);
        Due.due("get(255) when out", x.get(255), 0);
        for (int key = 0; key < 40; key++) {
            x.put(key * 6, MIN + key);
        }
        for (int key = 0; key < 40; key++) {
            Due.due("get(" + key * 6 + "), each with its own value", x.get(key * 6), MIN + key);
        }
    }

    private static void lowestDigits() {
        Due.says("Terms", "The ENDING of length d of a key are its lowest d binary digits");
        for (int ending = 0; ending < 64; ending++) {
            int apart = ending ^ 32;
            SplitDirectory x = with(ending, ending + 64, ending + 128, ending + 192, apart);
            for (int length = 0; length < 6; length++) {
                int key = ending ^ (1 << length);
                Due.due("depthOf(" + key + ")", x.depthOf(key), length + 1);
                Due.due("together(" + key + ", " + ending + ")", x.together(key, ending), false);
            }
            Due.due("depthOf(" + ending + ")", x.depthOf(ending), 6);
            Due.due("load(" + ending + ")", x.load(ending), 4);
            Due.due("load(" + (apart + 192) + ")", x.load(apart + 192), 1);
            Due.due("together of the digits 6 and 7 alone", x.together(ending, ending + 192), true);
        }
    }

    /** Up to nine keys with an ending, of which four at most have a 0 before it and four a 1, the ninth going deeper. */
    private static void upToFour(int length, int ending) {
        int one = ending + (1 << length);
        int[] keys = {ending, one, ending + 64, one + 64, one + 128, ending + 128, ending + 192, one + 192};
        SplitDirectory x = new SplitDirectory();
        for (int count = 1; count <= 8; count++) {
            int key = keys[count - 1];
            Due.due("put of key " + count + ", " + key, x.put(key, 0), count <= 4 ? 1 : length + 2);
            Due.due("depthOf(" + key + ") of " + count, x.depthOf(key), count <= 4 ? 0 : length + 1);
            Due.due("together(" + ending + ", " + one + ") of " + count, x.together(ending, one), count <= 4);
        }
        Due.due("load(" + ending + ")", x.load(ending), 4);
        Due.due("load(" + one + ")", x.load(one), 4);
        if (length < 5) {
            int ninth = ending + (2 << length);
            Due.due("put of key 9, " + ninth, x.put(ninth, 0), length + 3);
            Due.due("depthOf(" + ninth + ")", x.depthOf(ninth), length + 2);
            Due.due("depthOf(" + one + ")", x.depthOf(one), length + 1);
            Due.due("remove of key 9, " + ninth, x.remove(ninth), length + 2);
        }
        for (int count = 8; count >= 1; count--) {
            int key = keys[count - 1];
            Due.due("remove of key " + count + ", " + key, x.remove(key), count <= 5 ? 1 : length + 2);
        }
    }

    private static void fourInABucket() {
        Due.says("Terms", "all keys with a certain ending are in one bucket when they are at most four; otherwise those of "
            + "them with a 0 before that ending and those with a 1 before it are told apart");
        for (int length = 0; length <= 5; length++) {
            for (int ending = 0; ending < 1 << length; ending++) {
                upToFour(length, ending);
            }
        }
    }

    private static void askedAgain() {
        Due.says("Terms", "and the same is asked of these");
        for (int length = 0; length <= 5; length++) {
            // Five keys that have the ending of this length in common, with all digits of it 1, and not one digit more.
            int ones = (1 << length) - 1;
            int next = 1 << length;
            SplitDirectory x = with(ones, ones + 64, ones + 128, ones + 192, ones + next);
            Due.due("buckets(), five sharing " + length + " digits", x.buckets(), length + 2);
            Due.due("deepest(), five sharing " + length + " digits", x.deepest(), length + 1);
            Due.due("ofDepth(" + (length + 1) + ")", x.ofDepth(length + 1), 2);
            Due.due("ofDepth(" + length + ")", x.ofDepth(length), length == 0 ? 0 : 1);
        }
        SplitDirectory both = with(0, 64, 128, 192, 32, 1, 65, 129, 193, 33);
        Due.due("buckets() with both sides asked again", both.buckets(), 12);
        Due.due("ofDepth(6) with both sides asked again", both.ofDepth(6), 4);
        Due.due("remove(33), so that one side comes together", both.remove(33), 7);
        Due.due("depthOf(1) then", both.depthOf(1), 1);
        Due.due("depthOf(0) then", both.depthOf(0), 6);
    }

    private static void emptyEnding() {
        Due.says("Terms", "It begins with the empty ending, which all keys have");
        SplitDirectory x = with(0, 85, 170, 255);
        SplitDirectory y = with(0, 85, 170, 255);
        for (int key = 0; key <= 255; key++) {
            Due.due("depthOf(" + key + ") of four", x.depthOf(key), 0);
            Due.due("together(" + key + ", 0) of four", y.together(key, 0), true);
        }
    }

    private static void bucketsWithoutKeys() {
        Due.says("Terms", "there can be buckets without keys");
        SplitDirectory x = deep();
        for (int depth = 1; depth <= 5; depth++) {
            int key = 1 << (depth - 1);
            Due.due("load(" + key + ")", x.load(key), 0);
            Due.due("inBucket(" + key + ", 0)", x.inBucket(key, 0), BAD);
            Due.due("depthOf(" + key + ")", x.depthOf(key), depth);
            Due.due("together(" + key + ", " + (key + 128) + ")", x.together(key, key + 128), true);
            Due.due("growth(" + key + ")", x.growth(key), 0);
            Due.due("ofDepth(" + depth + ")", x.ofDepth(depth), 1);
        }
        Due.due("buckets(), five of them without keys", x.buckets(), 7);
        Due.due("put(255, 1) into a bucket without keys", x.put(255, 1), 7);
        Due.due("load(1)", x.load(1), 1);
        Due.due("remove(255), the last of its bucket", x.remove(255), 7);
        Due.due("load(1) when it is out", x.load(1), 0);
        Due.due("depthOf(1) when it is out", x.depthOf(1), 1);
    }

    private static void depths() {
        Due.says("Terms", "The DEPTH of a bucket is the length of its ending");
        SplitDirectory x = widest();
        int[] counts = {0, 0, 0, 0, 8, 8, 16, 0, 0};
        for (int d = 0; d < counts.length; d++) {
            Due.due("ofDepth(" + d + ") with the most buckets", x.ofDepth(d), counts[d]);
        }
        Due.due("buckets(), the most there can be", x.buckets(), 32);
        Due.due("deepest()", x.deepest(), 6);
        Due.due("depthOf(0)", x.depthOf(0), 6);
        Due.due("depthOf(16)", x.depthOf(16), 5);
        Due.due("depthOf(8)", x.depthOf(8), 4);
        // Eight keys with an ending of length 5 fill both of its buckets; there is no ninth.
        SplitDirectory eight = withSteps(31, 32, 8);
        Due.due("deepest() of all keys with the ending 11111", eight.deepest(), 6);
        Due.due("load(31)", eight.load(31), 4);
        Due.due("load(63)", eight.load(63), 4);
        Due.due("buckets()", eight.buckets(), 7);
    }

    private static void upToForty(int first, int step) {
        SplitDirectory x = withSteps(first, step, 39);
        int fortieth = first + 39 * step;
        int another = first + 1;
        Due.due("size()", x.size(), 39);
        Due.due("has(" + another + ") before", x.has(another), false);
        boolean taken = x.put(fortieth, 5) > 0;
        Due.due("put of the 40th key is taken", taken, true);
        Due.due("size()", x.size(), 40);
        Due.due("get of the 40th key", x.get(fortieth), 5);
        Due.due("put of a 41st key", x.put(another, 6), FULL);
        Due.due("size() after it", x.size(), 40);
        Due.due("has of the 41st key", x.has(another), false);
        x.remove(fortieth);
        taken = x.put(another, 7) > 0;
        Due.due("put of another 40th key is taken", taken, true);
        Due.due("get of it", x.get(another), 7);
        Due.due("put of the key taken out", x.put(fortieth, 8), FULL);
    }

    private static void forty() {
        Due.says("Terms", "At most 40 keys can be there.");
        upToForty(0, 2);
        upToForty(0, 6);
        upToForty(21, 6);
        upToForty(1, 4);
        SplitDirectory x = withSteps(0, 1, 40);
        for (int key = 40; key <= 255; key++) {
            Due.due("put(" + key + ", 1) when 40 are there", x.put(key, 1), FULL);
        }
    }

    // Promise 1

    private static void newObject() {
        Due.says("Promise 1", "No keys: one bucket of depth 0.");
        SplitDirectory x = new SplitDirectory();
        Due.due("size()", x.size(), 0);
        Due.due("next(MIN)", x.next(MIN), BAD);
        Due.due("buckets()", x.buckets(), 1);
        Due.due("deepest()", x.deepest(), 0);
        Due.due("ofDepth(-1)", x.ofDepth(-1), 0);
        Due.due("ofDepth(0)", x.ofDepth(0), 1);
        Due.due("ofDepth(1)", x.ofDepth(1), 0);
        Due.due("load(0)", x.load(0), 0);
        Due.due("load(255)", x.load(255), 0);
        Due.due("together(0, 255)", x.together(0, 255), true);
        for (int key = 0; key <= 255; key++) {
            Due.due("has(" + key + ")", x.has(key), false);
        }
        SplitDirectory emptied = new SplitDirectory();
        for (int key = 0; key <= 255; key++) {
            Due.due("get(" + key + ")", emptied.get(key), 0);
        }
        emptied.put(0, 1);
        Due.due("remove(0), the only key", emptied.remove(0), 1);
        Due.due("size() when emptied", emptied.size(), 0);
        Due.due("ofDepth(0) when emptied", emptied.ofDepth(0), 1);
        Due.due("next(MIN) when emptied", emptied.next(MIN), BAD);
    }

    // Promise 2

    private static void putInPlace() {
        Due.says("Promise 2", "Gives a key a value, in place of one it had.");
        int[] sizes = {1, 4, 5, 39, 40};
        for (int size : sizes) {
            SplitDirectory x = withSteps(0, 1, size);
            int buckets = x.buckets();
            int last = size - 1;
            Due.due("put(" + last + ", -7) in place, of " + size, x.put(last, -7), buckets);
            Due.due("get(" + last + ")", x.get(last), -7);
            Due.due("put(0, 0) in place, of " + size, x.put(0, 0), buckets);
            Due.due("get(0)", x.get(0), 0);
            Due.due("has(0)", x.has(0), true);
            Due.due("size()", x.size(), size);
        }
    }

    private static void putOfNoKey() {
        Due.says("Promise 2", "BAD when key is not 0 .. 255");
        SplitDirectory x = new SplitDirectory();
        Due.due("put(-1, 1)", x.put(-1, 1), BAD);
        Due.due("size()", x.size(), 0);
        Due.due("put(0, 1)", x.put(0, 1), 1);
        Due.due("put(255, 1)", x.put(255, 1), 1);
        Due.due("put(256, 1)", x.put(256, 1), BAD);
        for (int key : NOT_KEYS) {
            Due.due("put(" + key + ", 2)", x.put(key, 2), BAD);
        }
        Due.due("size()", x.size(), 2);
        Due.due("get(0)", x.get(0), 1);
        Due.due("get(255)", x.get(255), 1);
    }

    private static void putOrder() {
        Due.says("Promise 2", "Tested in this order: BAD when key is not 0 .. 255; FULL when it is not there and 40 keys are");
        SplitDirectory x = withSteps(0, 1, 40);
        for (int key : NOT_KEYS) {
            Due.due("put(" + key + ", 1) when 40 are there", x.put(key, 1), BAD);
        }
        Due.due("put(40, 1) when 40 are there", x.put(40, 1), FULL);
        Due.due("put(255, 1) when 40 are there", x.put(255, 1), FULL);
        for (int key = 0; key < 40; key++) {
            Due.due("put(" + key + ", 9) of one of the 40", x.put(key, 9), 16);
            Due.due("get(" + key + ")", x.get(key), 9);
        }
        Due.due("size()", x.size(), 40);
        x.remove(0);
        Due.due("put(256, 1) when 39 are there", x.put(256, 1), BAD);
        Due.due("put(0, 1) when 39 are there", x.put(0, 1), 16);
        Due.due("put(40, 1) when 40 are there again", x.put(40, 1), FULL);
    }

    private static void putAnswer() {
        Due.says("Promise 2", "otherwise the answer is the number of buckets there are then");
        SplitDirectory x = with(0, 64, 128);
        Due.due("put(192, 1), the fourth", x.put(192, 1), 1);
        Due.due("put(32, 1), the fifth", x.put(32, 1), 7);
        Due.due("put(96, 1), the sixth", x.put(96, 1), 7);
        Due.due("buckets()", x.buckets(), 7);
        SplitDirectory most = widest();
        Due.due("put(0, 1) with the most buckets", most.put(0, 1), 32);
        most.remove(39);
        Due.due("put(39, 1), the 40th", most.put(39, 1), 32);
        most.remove(39);
        Due.due("put(47, 1), the 40th at a lesser depth", most.put(47, 1), 30);
    }

    // Promise 3

    private static void removeOfNone() {
        Due.says("Promise 3", "BAD when it is not there.");
        SplitDirectory x = new SplitDirectory();
        Due.due("remove(0) of none", x.remove(0), BAD);
        Due.due("remove(255) of none", x.remove(255), BAD);
        Due.due("size()", x.size(), 0);
        x.put(0, 1);
        x.put(255, 1);
        for (int key : NOT_KEYS) {
            Due.due("remove(" + key + ")", x.remove(key), BAD);
        }
        for (int key = 1; key <= 254; key++) {
            Due.due("remove(" + key + ")", x.remove(key), BAD);
        }
        Due.due("size()", x.size(), 2);
        Due.due("remove(0)", x.remove(0), 1);
        Due.due("remove(0) again", x.remove(0), BAD);
        Due.due("remove(255)", x.remove(255), 1);
        Due.due("remove(255) again", x.remove(255), BAD);
        Due.due("size()", x.size(), 0);
        SplitDirectory full = withSteps(0, 1, 40);
        Due.due("remove(40) when 40 are there", full.remove(40), BAD);
        full.put(40, 1);
        Due.due("remove(40) after FULL", full.remove(40), BAD);
        Due.due("size()", full.size(), 40);
    }

    private static void removeAnswer() {
        Due.says("Promise 3", "Takes a key out and answers the number of buckets there are then");
        SplitDirectory x = with(0, 64, 128, 192, 32, 96);
        Due.due("remove(96), five left", x.remove(96), 7);
        Due.due("remove(32), four left", x.remove(32), 1);
        Due.due("remove(192), three left", x.remove(192), 1);
        Due.due("remove(0)", x.remove(0), 1);
        Due.due("remove(64)", x.remove(64), 1);
        Due.due("remove(128), none left", x.remove(128), 1);
        Due.due("size()", x.size(), 0);
        SplitDirectory full = widest();
        Due.due("remove(39), one of 40", full.remove(39), 29);
        Due.due("has(39)", full.has(39), false);
        Due.due("size()", full.size(), 39);
        Due.due("depthOf(7)", full.depthOf(7), 3);
    }

    // Promise 4

    private static void has() {
        Due.says("Promise 4", "Whether a key is there.");
        SplitDirectory x = with(0, 100, 255);
        int[] asked = {-1, 0, 1, 99, 100, 101, 254, 255, 256};
        for (int key : asked) {
            Due.due("has(" + key + ")", x.has(key), key == 0 || key == 100 || key == 255);
        }
        for (int key : NOT_KEYS) {
            Due.due("has(" + key + ")", x.has(key), false);
        }
    }

    // Promise 5

    private static void getOfNone() {
        Due.says("Promise 5", "0 when it is not there.");
        SplitDirectory x = new SplitDirectory();
        Due.due("get(0) of none", x.get(0), 0);
        Due.due("get(255) of none", x.get(255), 0);
        x.put(0, 11);
        x.put(100, 12);
        x.put(255, 13);
        int[] notThere = {1, 99, 101, 254};
        for (int key : notThere) {
            Due.due("get(" + key + ")", x.get(key), 0);
        }
        for (int key : NOT_KEYS) {
            x.put(key, 14);
            Due.due("get(" + key + ")", x.get(key), 0);
        }
        Due.due("get(0)", x.get(0), 11);
        Due.due("get(100)", x.get(100), 12);
        Due.due("get(255)", x.get(255), 13);
        x.remove(100);
        Due.due("get(100) when out", x.get(100), 0);
        x.put(100, -3);
        Due.due("get(100) when put again", x.get(100), -3);
        SplitDirectory full = withSteps(0, 1, 40);
        full.put(40, 5);
        Due.due("get(40) after FULL", full.get(40), 0);
    }

    // Promises 6 to 8

    private static void size() {
        Due.says("Promise 6", "The number of keys.");
        SplitDirectory x = new SplitDirectory();
        Due.due("size() of none", x.size(), 0);
        for (int key = 0; key < 60; key++) {
            x.put(key, 1);
            Due.due("size() after put(" + key + ", 1)", x.size(), key < 40 ? key + 1 : 40);
        }
        for (int key = 59; key >= 0; key--) {
            x.remove(key);
            Due.due("size() after remove(" + key + ")", x.size(), key < 40 ? key : 40);
        }
        x.remove(0);
        Due.due("size() after a remove of none", x.size(), 0);
    }

    private static void buckets() {
        Due.says("Promise 7", "The number of buckets.");
        Due.due("buckets() of none", new SplitDirectory().buckets(), 1);
        Due.due("buckets() of four", withSteps(0, 1, 4).buckets(), 1);
        Due.due("buckets() of five", withSteps(0, 1, 5).buckets(), 2);
        Due.due("buckets() of eight", withSteps(0, 1, 8).buckets(), 2);
        Due.due("buckets() of nine", withSteps(0, 1, 9).buckets(), 3);
        Due.due("buckets() of 39", withSteps(0, 1, 39).buckets(), 15);
        Due.due("buckets() of 40", withSteps(0, 1, 40).buckets(), 16);
        SplitDirectory most = widest();
        Due.due("buckets(), the most there can be", most.buckets(), 32);
        most.put(8, 1);
        Due.due("buckets() after FULL", most.buckets(), 32);
    }

    private static void deepest() {
        Due.says("Promise 8", "The greatest depth of a bucket.");
        Due.due("deepest() of none", new SplitDirectory().deepest(), 0);
        Due.due("deepest() of four", with(0, 64, 128, 192).deepest(), 0);
        for (int depth = 1; depth <= 6; depth++) {
            int apart = 1 << (depth - 1);
            SplitDirectory x = with(0, 64, 128, 192, apart);
            Due.due("deepest() of five told apart at depth " + depth, x.deepest(), depth);
            SplitDirectory y = with(255, 191, 127, 63, 255 - apart);
            Due.due("deepest() of five with ones told apart at depth " + depth, y.deepest(), depth);
            y.remove(63);
            Due.due("deepest() when four are left", y.deepest(), 0);
        }
    }

    // Promises 9 and 10

    private static void depthOfNoKey() {
        Due.says("Promise 9", "BAD when key is not 0 .. 255.");
        SplitDirectory x = deep();
        Due.due("depthOf(-1)", x.depthOf(-1), BAD);
        Due.due("depthOf(0)", x.depthOf(0), 6);
        Due.due("depthOf(255)", x.depthOf(255), 1);
        Due.due("depthOf(256)", x.depthOf(256), BAD);
        SplitDirectory none = new SplitDirectory();
        Due.due("depthOf(0) of none", none.depthOf(0), 0);
        Due.due("depthOf(255) of none", none.depthOf(255), 0);
        SplitDirectory full = withSteps(216, 1, 40);
        Due.due("depthOf(0) when 40 are there", full.depthOf(0), 4);
        Due.due("depthOf(255) when 40 are there", full.depthOf(255), 4);
        for (int key : NOT_KEYS) {
            Due.due("depthOf(" + key + ")", x.depthOf(key), BAD);
            Due.due("depthOf(" + key + ") of none", none.depthOf(key), BAD);
            Due.due("depthOf(" + key + ") when 40 are there", full.depthOf(key), BAD);
        }
    }

    private static void depthOfNotThere() {
        Due.says("Promise 9", "The depth of the bucket that has the key, or would have it");
        SplitDirectory x = with(0, 64, 128, 192);
        // Before it is put in, a key would be in the bucket that there is now.
        Due.due("depthOf(32), not there, of four", x.depthOf(32), 0);
        x.put(32, 1);
        Due.due("depthOf(32), there, of five", x.depthOf(32), 6);
        Due.due("depthOf(96), not there, of five", x.depthOf(96), 6);
        x.remove(32);
        Due.due("depthOf(32) when out", x.depthOf(32), 0);
    }

    private static void loadOfNoKey() {
        Due.says("Promise 10", "BAD when key is not 0 .. 255.");
        SplitDirectory x = deep();
        x.put(255, 1);
        Due.due("load(-1)", x.load(-1), BAD);
        Due.due("load(0)", x.load(0), 4);
        Due.due("load(255)", x.load(255), 1);
        Due.due("load(256)", x.load(256), BAD);
        SplitDirectory none = new SplitDirectory();
        Due.due("load(0) of none", none.load(0), 0);
        Due.due("load(255) of none", none.load(255), 0);
        SplitDirectory full = withSteps(216, 1, 40);
        Due.due("load(0) when 40 are there", full.load(0), 2);
        Due.due("load(255) when 40 are there", full.load(255), 3);
        for (int key : NOT_KEYS) {
            Due.due("load(" + key + ")", x.load(key), BAD);
            Due.due("load(" + key + ") of none", none.load(key), BAD);
            Due.due("load(" + key + ") when 40 are there", full.load(key), BAD);
        }
    }

    private static void loads() {
        Due.says("Promise 10", "The number of keys in that bucket");
        SplitDirectory x = new SplitDirectory();
        for (int i = 0; i < 4; i++) {
            Due.due("load(1) of " + i, x.load(1), i);
            x.put(i * 64, 1);
            Due.due("load(0) of " + (i + 1), x.load(0), i + 1);
        }
        x.put(1, 1);
        Due.due("load(0) of five", x.load(0), 4);
        Due.due("load(3), not there, of five", x.load(3), 1);
        x.remove(1);
        Due.due("load(3) when they come together", x.load(3), 4);
    }

    // Promise 11

    private static void kthLeast() {
        Due.says("Promise 11", "The k-th least key (0 the least) in that bucket; BAD when there is none");
        int[][] sets = {{}, {255}, {255, 0}, {128, 255, 0}, {255, 128, 0, 127}};
        int[][] sorted = {{}, {255}, {0, 255}, {0, 128, 255}, {0, 127, 128, 255}};
        int[] wrongK = {-1, -2, MIN, MIN + 1, 5, 39, 40, 255, 256, MAX, MAX - 1};
        for (int i = 0; i < sets.length; i++) {
            SplitDirectory x = with(sets[i]);
            for (int k = 0; k < i; k++) {
                Due.due("inBucket(7, " + k + ") of " + i, x.inBucket(7, k), sorted[i][k]);
            }
            Due.due("inBucket(7, " + i + ") of " + i, x.inBucket(7, i), BAD);
            for (int k : wrongK) {
                Due.due("inBucket(7, " + k + ") of " + i, x.inBucket(7, k), BAD);
                Due.due("inBucket(255, " + k + ") of " + i, x.inBucket(255, k), BAD);
            }
        }
        SplitDirectory x = deep();
        Due.due("inBucket(0, 3) of a full bucket", x.inBucket(0, 3), 192);
        Due.due("inBucket(0, 4) of a full bucket", x.inBucket(0, 4), BAD);
        Due.due("inBucket(32, 0) of one", x.inBucket(32, 0), 32);
        Due.due("inBucket(32, 1) of one", x.inBucket(32, 1), BAD);
        Due.due("inBucket(255, 0) of a bucket without keys", x.inBucket(255, 0), BAD);
    }

    private static void inBucketOfNoKey() {
        Due.says("Promise 11", "or key is not 0 .. 255");
        SplitDirectory x = with(0, 1, 254, 255);
        Due.due("inBucket(-1, 0)", x.inBucket(-1, 0), BAD);
        Due.due("inBucket(0, 0)", x.inBucket(0, 0), 0);
        Due.due("inBucket(255, 3)", x.inBucket(255, 3), 255);
        Due.due("inBucket(256, 3)", x.inBucket(256, 3), BAD);
        for (int key : NOT_KEYS) {
            for (int k = -1; k <= 4; k++) {
                Due.due("inBucket(" + key + ", " + k + ")", x.inBucket(key, k), BAD);
            }
        }
    }

    // Promise 12

    private static void togetherOfNoKey() {
        Due.says("Promise 12", "false when one is not 0 .. 255.");
        SplitDirectory[] objects = {new SplitDirectory(), with(0, 255), with(0, 64, 128, 192, 32, 1)};
        for (int i = 0; i < objects.length; i++) {
            SplitDirectory x = objects[i];
            Due.due("together(0, 0)", x.together(0, 0), true);
            Due.due("together(255, 255)", x.together(255, 255), true);
            Due.due("together(0, 255)", x.together(0, 255), i < 2);
            Due.due("together(255, 0)", x.together(255, 0), i < 2);
            for (int key : NOT_KEYS) {
                Due.due("together(" + key + ", 0)", x.together(key, 0), false);
                Due.due("together(0, " + key + ")", x.together(0, key), false);
                Due.due("together(" + key + ", 255)", x.together(key, 255), false);
                Due.due("together(255, " + key + ")", x.together(255, key), false);
                Due.due("together(" + key + ", itself)", x.together(key, key), false);
            }
            Due.due("together(-1, 256)", x.together(-1, 256), false);
            Due.due("together(256, -1)", x.together(256, -1), false);
        }
    }

    private static void togetherNotThere() {
        Due.says("Promise 12", "Whether two keys have, or would have, the same bucket");
        SplitDirectory x = with(0, 64, 128, 192);
        Due.due("together(0, 32), one not there, of four", x.together(0, 32), true);
        Due.due("together(5, 250), both not there, of four", x.together(5, 250), true);
        x.put(32, 1);
        Due.due("together(0, 32) of five", x.together(0, 32), false);
        Due.due("together(32, 0) of five", x.together(32, 0), false);
        Due.due("together(32, 96), one not there, of five", x.together(32, 96), true);
        Due.due("together(5, 250), both not there, of five", x.together(5, 250), false);
        Due.due("together(5, 251), both not there, of five", x.together(5, 251), true);
        // Two buckets of unlike depth, asked from either side.
        Due.due("together(1, 0)", x.together(1, 0), false);
        Due.due("together(0, 1)", x.together(0, 1), false);
        Due.due("together(0, 16)", x.together(0, 16), false);
        Due.due("together(16, 0)", x.together(16, 0), false);
    }

    // Promise 13

    private static void ofDepth() {
        Due.says("Promise 13", "The number of buckets of a depth.");
        SplitDirectory[] objects = {new SplitDirectory(), with(0, 1, 2, 3), deep(), withSteps(0, 1, 40), widest()};
        int[][] counts = {
            {1, 0, 0, 0, 0, 0, 0}, {1, 0, 0, 0, 0, 0, 0}, {0, 1, 1, 1, 1, 1, 2}, {0, 0, 0, 0, 16, 0, 0}, {0, 0, 0, 0, 8, 8, 16}};
        // Among them the ones that a shift takes for 0 to 8.
        int[] noDepths = {
            -1, -2, 7, 8, 9, 30, 31, 32, 33, 36, 37, 38, 39, 63, 64, 70, 256, -26, -32, -64, MIN, MIN + 6, MAX, MAX - 1};
        for (int i = 0; i < objects.length; i++) {
            for (int d = 0; d <= 6; d++) {
                Due.due("ofDepth(" + d + ") of object " + i, objects[i].ofDepth(d), counts[i][d]);
            }
            for (int d : noDepths) {
                Due.due("ofDepth(" + d + ") of object " + i, objects[i].ofDepth(d), 0);
            }
        }
    }

    // Promise 14

    private static void next() {
        Due.says("Promise 14", "The least key, from one on (which may be any int), that is there");
        int[] below = {MIN, MIN + 1, -256, -255, -2, -1, 0};
        for (int from : below) {
            Due.due("next(" + from + ") of 0", with(0).next(from), 0);
            Due.due("next(" + from + ") of 255", with(255).next(from), 255);
            Due.due("next(" + from + ") of 0 and 255", with(255, 0).next(from), 0);
        }
        SplitDirectory x = with(100, 102, 255);
        Due.due("next(99)", x.next(99), 100);
        Due.due("next(100)", x.next(100), 100);
        Due.due("next(101)", x.next(101), 102);
        Due.due("next(102)", x.next(102), 102);
        Due.due("next(103)", x.next(103), 255);
        Due.due("next(254)", x.next(254), 255);
        Due.due("next(255)", x.next(255), 255);
        SplitDirectory full = withSteps(216, 1, 40);
        Due.due("next(MIN) when 40 are there", full.next(MIN), 216);
        Due.due("next(216) when 40 are there", full.next(216), 216);
        Due.due("next(217) when 40 are there", full.next(217), 217);
        full.put(0, 1);
        Due.due("next(0) after FULL", full.next(0), 216);
    }

    private static void nextOfNone() {
        Due.says("Promise 14", "BAD when there is none.");
        int[] any = {MIN, -1, 0, 1, 254, 255, 256, MAX};
        SplitDirectory none = new SplitDirectory();
        for (int from : any) {
            Due.due("next(" + from + ") of none", none.next(from), BAD);
        }
        Due.due("next(0) of 0", with(0).next(0), 0);
        Due.due("next(1) of 0", with(0).next(1), BAD);
        Due.due("next(254) of 254", with(254).next(254), 254);
        Due.due("next(255) of 254", with(254).next(255), BAD);
        int[] above = {256, 257, 511, 512, 1 << 16, 1 << 30, MAX - 255, MAX - 1, MAX};
        SplitDirectory x = with(0, 1, 254, 255);
        Due.due("next(255) of 255", x.next(255), 255);
        for (int from : above) {
            Due.due("next(" + from + ")", x.next(from), BAD);
        }
        x.remove(255);
        Due.due("next(255) when 255 is out", x.next(255), BAD);
    }

    // Promise 15

    private static void growth() {
        Due.says("Promise 15", "How many buckets there would be more if the key were put in");
        Due.due("growth(32) of three", with(0, 64, 128).growth(32), 0);
        SplitDirectory four = with(0, 64, 128, 192);
        for (int depth = 1; depth <= 6; depth++) {
            int key = 1 << (depth - 1);
            Due.due("growth(" + key + ") of four", four.growth(key), depth);
            Due.due("size() after growth", four.size(), 4);
            Due.due("buckets() after growth", four.buckets(), 1);
        }
        SplitDirectory five = deep();
        Due.due("growth(96) beside one", five.growth(96), 0);
        five.put(96, 1);
        five.put(160, 1);
        Due.due("growth(224) beside three, all its ending can have", five.growth(224), 0);
        Due.due("growth(1) into a bucket without keys", five.growth(1), 0);
        Due.due("growth(16) into a bucket without keys", five.growth(16), 0);
        SplitDirectory wide = with(0, 2, 4, 6, 1, 3, 5, 7);
        Due.due("growth(8) of a full bucket of depth 1", wide.growth(8), 1);
        Due.due("growth(254) of a full bucket of depth 1", wide.growth(254), 1);
        wide.remove(7);
        Due.due("growth(9) of a bucket with room for one", wide.growth(9), 0);
    }

    private static void growthOfOneThere() {
        Due.says("Promise 15", "0 when it is there");
        SplitDirectory x = with(0, 64, 128, 192);
        for (int key = 0; key < 256; key += 64) {
            Due.due("growth(" + key + "), there in a full bucket", x.growth(key), 0);
        }
        Due.due("growth(32), not there", x.growth(32), 6);
        x.remove(192);
        x.put(32, 1);
        Due.due("growth(32), there", x.growth(32), 0);
        Due.due("growth(192), out", x.growth(192), 6);
        SplitDirectory last = with(255, 191, 127, 63);
        Due.due("growth(255), there", last.growth(255), 0);
        Due.due("growth(254), not there", last.growth(254), 1);
    }

    private static void growthOfNoKey() {
        Due.says("Promise 15", "BAD when it is not 0 .. 255.");
        SplitDirectory four = with(1, 2, 3, 4);
        Due.due("growth(-1)", four.growth(-1), BAD);
        Due.due("growth(0)", four.growth(0), 1);
        Due.due("growth(255)", four.growth(255), 1);
        Due.due("growth(256)", four.growth(256), BAD);
        SplitDirectory none = new SplitDirectory();
        SplitDirectory full = withSteps(0, 1, 40);
        for (int key : NOT_KEYS) {
            Due.due("growth(" + key + ")", four.growth(key), BAD);
            Due.due("growth(" + key + ") of none", none.growth(key), BAD);
            Due.due("growth(" + key + ") when 40 are there", full.growth(key), BAD);
        }
    }

    /** The four keys with the ending 000000, and odd ones from 1 on up to the size. */
    private static SplitDirectory fourEven(int size) {
        SplitDirectory x = with(0, 64, 128, 192);
        for (int i = 0; i < size - 4; i++) {
            x.put(2 * i + 1, 1);
        }
        return x;
    }

    private static void growthOfForty() {
        Due.says("Promise 15", "(It does not matter that 40 may be there.)");
        for (int size = 39; size <= 40; size++) {
            SplitDirectory x = fourEven(size);
            Due.due("size()", x.size(), size);
            for (int depth = 2; depth <= 6; depth++) {
                int key = 1 << (depth - 1);
                Due.due("growth(" + key + ") of " + size, x.growth(key), depth - 1);
            }
            Due.due("growth(0), there, of " + size, x.growth(0), 0);
            Due.due("growth(97) beside three, of " + size, x.growth(97), 0);
            Due.due("growth(255) beside four, of " + size, x.growth(255), 1);
            int buckets = x.buckets();
            Due.due("put(32, 1) of " + size, x.put(32, 1), size == 40 ? FULL : buckets + 5);
            Due.due("growth(32) after it", x.growth(32), size == 40 ? 5 : 0);
        }
    }

    public static void main(String[] args) {
        lastOfTheCalls();
        keys();
        anyValue();
        lowestDigits();
        fourInABucket();
        askedAgain();
        emptyEnding();
        bucketsWithoutKeys();
        depths();
        forty();
        newObject();
        putInPlace();
        putOfNoKey();
        putOrder();
        putAnswer();
        removeOfNone();
        removeAnswer();
        has();
        getOfNone();
        size();
        buckets();
        deepest();
        depthOfNoKey();
        depthOfNotThere();
        loadOfNoKey();
        loads();
        kthLeast();
        inBucketOfNoKey();
        togetherOfNoKey();
        togetherNotThere();
        ofDepth();
        next();
        nextOfNone();
        growth();
        growthOfOneThere();
        growthOfNoKey();
        growthOfForty();
        Due.end();
    }
}
