/** Each promise by hand: ordinary inputs, the edges the document names, and wrong inputs. */
public final class PromiseTest {
    private static final int BAD = -1;
    private static final int FULL = -2;
    private static final int[] NOT_KEYS = {-1, 256, -256, 257, 1000, Integer.MIN_VALUE, Integer.MAX_VALUE};

    private static int wrong = 0;

    private static void due(int promise, String call, int got, int want) {
        if (got != want) {
            wrong++;
            System.out.println("promise " + promise + ": " + call + " answered " + got + ", due is " + want);
        }
    }

    private static void due(int promise, String call, boolean got, boolean want) {
        if (got != want) {
            wrong++;
            System.out.println("promise " + promise + ": " + call + " answered " + got + ", due is " + want);
        }
    }

    private static SplitDirectory with(int... keys) {
        SplitDirectory x = new SplitDirectory();
        for (int key : keys) {
            x.put(key, key + 1000);
        }
        return x;
    }

    /** Forty keys, 0 to 39: 8 buckets of depth 3 with five keys each, so each is split once more. */
    private static SplitDirectory full() {
        SplitDirectory x = new SplitDirectory();
        for (int key = 0; key < 40; key++) {
            x.put(key, key);
        }
        return x;
    }

    /** Endings: 1 (depth 1), 10, 100, 1000, 10000 without keys, 00000 split into 000000 with four and 100000 with one. */
    private static SplitDirectory deep() {
        return with(0, 64, 128, 192, 32);
    }

    private static void newObject() {
        SplitDirectory x = new SplitDirectory();
        due(1, "size()", x.size(), 0);
        due(1, "buckets()", x.buckets(), 1);
        due(1, "deepest()", x.deepest(), 0);
        due(1, "ofDepth(0)", x.ofDepth(0), 1);
        for (int d = 1; d <= 9; d++) {
            due(1, "ofDepth(" + d + ")", x.ofDepth(d), 0);
        }
        due(1, "next(0)", x.next(0), BAD);
        for (int key = 0; key < 256; key++) {
            due(1, "has(" + key + ")", x.has(key), false);
        }
        SplitDirectory y = with(1, 2, 3, 4, 5);
        x = new SplitDirectory();
        due(1, "buckets() of a second object", x.buckets(), 1);
        due(1, "size() of a second object", x.size(), 0);
        due(1, "size() of the first object", y.size(), 5);
    }

    private static void put() {
        SplitDirectory x = new SplitDirectory();
        for (int key : NOT_KEYS) {
            due(2, "put(" + key + ", 1)", x.put(key, 1), BAD);
        }
        due(2, "size() after wrong keys", x.size(), 0);
        due(2, "put(0, 7)", x.put(0, 7), 1);
        due(2, "put(255, MIN)", x.put(255, Integer.MIN_VALUE), 1);
        due(2, "put(1, MAX)", x.put(1, Integer.MAX_VALUE), 1);
        due(2, "put(2, -1)", x.put(2, -1), 1);
        due(2, "put(2, 0) again", x.put(2, 0), 1);
        due(2, "size()", x.size(), 4);
        due(2, "get(2)", x.get(2), 0);
        due(2, "get(255)", x.get(255), Integer.MIN_VALUE);
        due(2, "get(1)", x.get(1), Integer.MAX_VALUE);
        due(2, "put(4, 1), the fifth key", x.put(4, 1), 2);
        due(2, "put(4, 2) again", x.put(4, 2), 2);
    }

    private static void putWhenFull() {
        SplitDirectory x = full();
        due(2, "size()", x.size(), 40);
        due(2, "put(40, 1) when 40 are there", x.put(40, 1), FULL);
        due(2, "has(40) after FULL", x.has(40), false);
        due(2, "get(40) after FULL", x.get(40), 0);
        due(2, "size() after FULL", x.size(), 40);
        due(2, "buckets() after FULL", x.buckets(), 16);
        for (int key : NOT_KEYS) {
            due(2, "put(" + key + ", 1) when 40 are there", x.put(key, 1), BAD);
        }
        due(2, "put(39, 5) when 40 are there", x.put(39, 5), 16);
        due(2, "get(39)", x.get(39), 5);
        due(2, "remove(39)", x.remove(39), 15);
        due(2, "put(40, 6) when 39 are there", x.put(40, 6), 15);
        due(2, "put(39, 6) when 40 are there again", x.put(39, 6), FULL);
        SplitDirectory almost = full();
        almost.remove(0);
        due(2, "put(255, 1) as the 40th", almost.put(255, 1), 15);
    }

    private static void remove() {
        SplitDirectory x = new SplitDirectory();
        due(3, "remove(0) of none", x.remove(0), BAD);
        for (int key : NOT_KEYS) {
            due(3, "remove(" + key + ")", x.remove(key), BAD);
        }
        due(3, "size() after wrong keys", x.size(), 0);
        x = deep();
        due(3, "remove(1)", x.remove(1), BAD);
        due(3, "buckets()", x.buckets(), 7);
        due(3, "remove(32)", x.remove(32), 1);
        due(3, "has(32)", x.has(32), false);
        due(3, "remove(32) again", x.remove(32), BAD);
        due(3, "size()", x.size(), 4);
        due(3, "get(32)", x.get(32), 0);
        due(3, "put(32, 8)", x.put(32, 8), 7);
        due(3, "get(32) when put again", x.get(32), 8);
        due(3, "get(64)", x.get(64), 1064);
        for (int key = 0; key < 256; key += 32) {
            x.remove(key);
        }
        due(3, "size() when all are out", x.size(), 0);
        due(3, "buckets() when all are out", x.buckets(), 1);
        SplitDirectory y = with(0, 2, 4, 6, 1, 3, 5, 7, 9);
        due(3, "buckets()", y.buckets(), 3);
        due(3, "remove(2), with five odd keys left", y.remove(2), 3);
        due(3, "remove(9), with four odd and three even keys left", y.remove(9), 2);
    }

    private static void has() {
        SplitDirectory x = with(0, 7, 255);
        due(4, "has(0)", x.has(0), true);
        due(4, "has(7)", x.has(7), true);
        due(4, "has(255)", x.has(255), true);
        due(4, "has(1)", x.has(1), false);
        due(4, "has(254)", x.has(254), false);
        for (int key : NOT_KEYS) {
            due(4, "has(" + key + ")", x.has(key), false);
        }
        x.put(7, 0);
        due(4, "has(7) with value 0", x.has(7), true);
        x.remove(7);
        due(4, "has(7) when out", x.has(7), false);
    }

    private static void get() {
        SplitDirectory x = with(0, 7, 255);
        due(5, "get(0)", x.get(0), 1000);
        due(5, "get(7)", x.get(7), 1007);
        due(5, "get(255)", x.get(255), 1255);
        due(5, "get(8)", x.get(8), 0);
        for (int key : NOT_KEYS) {
            due(5, "get(" + key + ")", x.get(key), 0);
        }
        x.put(7, -5);
        due(5, "get(7) with a new value", x.get(7), -5);
        x.remove(7);
        due(5, "get(7) when out", x.get(7), 0);
    }

    private static void size() {
        SplitDirectory x = new SplitDirectory();
        for (int i = 0; i < 40; i++) {
            due(6, "size()", x.size(), i);
            x.put(i * 6, i);
            x.put(i * 6, i + 1);
        }
        due(6, "size() when full", x.size(), 40);
        x.put(1, 1);
        due(6, "size() after FULL", x.size(), 40);
        for (int i = 39; i >= 0; i--) {
            x.remove(i * 6);
            x.remove(i * 6);
            due(6, "size()", x.size(), i);
        }
    }

    private static void buckets() {
        due(7, "buckets() of four", with(0, 64, 128, 192).buckets(), 1);
        due(7, "buckets() of five told apart at once", with(0, 1, 2, 3, 4).buckets(), 2);
        due(7, "buckets() with buckets without keys", deep().buckets(), 7);
        due(7, "buckets() when full", full().buckets(), 16);
        SplitDirectory x = with(0, 64, 128, 192, 32, 63, 127, 191, 255, 31);
        due(7, "buckets() with two deep sides", x.buckets(), 12);
        x.remove(31);
        due(7, "buckets() with one deep side", x.buckets(), 7);
    }

    private static void deepest() {
        due(8, "deepest() of four", with(0, 64, 128, 192).deepest(), 0);
        due(8, "deepest() of five", with(0, 1, 2, 3, 4).deepest(), 1);
        due(8, "deepest() at the greatest there is", deep().deepest(), 6);
        due(8, "deepest() on the side of ones", with(63, 127, 191, 255, 31).deepest(), 6);
        due(8, "deepest() when full", full().deepest(), 4);
        due(8, "deepest() on one side", with(0, 2, 1, 3, 5, 7, 9).deepest(), 2);
        SplitDirectory x = deep();
        x.remove(0);
        due(8, "deepest() when they come together", x.deepest(), 0);
    }

    private static void depthOf() {
        SplitDirectory x = deep();
        due(9, "depthOf(0)", x.depthOf(0), 6);
        due(9, "depthOf(32)", x.depthOf(32), 6);
        due(9, "depthOf(96), not there", x.depthOf(96), 6);
        due(9, "depthOf(16)", x.depthOf(16), 5);
        due(9, "depthOf(8)", x.depthOf(8), 4);
        due(9, "depthOf(4)", x.depthOf(4), 3);
        due(9, "depthOf(2)", x.depthOf(2), 2);
        due(9, "depthOf(254)", x.depthOf(254), 2);
        due(9, "depthOf(1)", x.depthOf(1), 1);
        due(9, "depthOf(255)", x.depthOf(255), 1);
        due(9, "depthOf(0) of none", new SplitDirectory().depthOf(0), 0);
        for (int key : NOT_KEYS) {
            due(9, "depthOf(" + key + ")", x.depthOf(key), BAD);
        }
    }

    private static void load() {
        SplitDirectory x = deep();
        due(10, "load(0)", x.load(0), 4);
        due(10, "load(32)", x.load(32), 1);
        due(10, "load(224), not there", x.load(224), 1);
        due(10, "load(16), without keys", x.load(16), 0);
        due(10, "load(255), without keys", x.load(255), 0);
        x.put(255, 1);
        due(10, "load(1)", x.load(1), 1);
        due(10, "load(0) of none", new SplitDirectory().load(0), 0);
        due(10, "load(9) of three", with(1, 2, 3).load(9), 3);
        for (int key : NOT_KEYS) {
            due(10, "load(" + key + ")", x.load(key), BAD);
        }
    }

    private static void inBucket() {
        SplitDirectory x = with(192, 32, 0, 128, 64);
        due(11, "inBucket(0, 0)", x.inBucket(0, 0), 0);
        due(11, "inBucket(192, 1)", x.inBucket(192, 1), 64);
        due(11, "inBucket(64, 2)", x.inBucket(64, 2), 128);
        due(11, "inBucket(0, 3)", x.inBucket(0, 3), 192);
        due(11, "inBucket(0, 4)", x.inBucket(0, 4), BAD);
        due(11, "inBucket(0, -1)", x.inBucket(0, -1), BAD);
        due(11, "inBucket(0, MAX)", x.inBucket(0, Integer.MAX_VALUE), BAD);
        due(11, "inBucket(0, MIN)", x.inBucket(0, Integer.MIN_VALUE), BAD);
        due(11, "inBucket(96, 0), not there", x.inBucket(96, 0), 32);
        due(11, "inBucket(96, 1)", x.inBucket(96, 1), BAD);
        due(11, "inBucket(1, 0), without keys", x.inBucket(1, 0), BAD);
        due(11, "inBucket(0, 0) of none", new SplitDirectory().inBucket(0, 0), BAD);
        due(11, "inBucket(0, 0) of 255", with(255).inBucket(0, 0), 255);
        for (int key : NOT_KEYS) {
            due(11, "inBucket(" + key + ", 0)", x.inBucket(key, 0), BAD);
        }
    }

    private static void together() {
        SplitDirectory x = deep();
        due(12, "together(0, 192)", x.together(0, 192), true);
        due(12, "together(0, 32)", x.together(0, 32), false);
        due(12, "together(32, 0)", x.together(32, 0), false);
        due(12, "together(32, 224)", x.together(32, 224), true);
        due(12, "together(1, 255)", x.together(1, 255), true);
        due(12, "together(255, 0)", x.together(255, 0), false);
        due(12, "together(0, 255)", x.together(0, 255), false);
        due(12, "together(4, 8), both without keys", x.together(4, 8), false);
        due(12, "together(2, 6)", x.together(2, 6), true);
        due(12, "together(5, 5)", x.together(5, 5), true);
        due(12, "together(0, 255) of none", new SplitDirectory().together(0, 255), true);
        for (int key : NOT_KEYS) {
            due(12, "together(" + key + ", 0)", x.together(key, 0), false);
            due(12, "together(0, " + key + ")", x.together(0, key), false);
            due(12, "together(" + key + ", " + key + ")", x.together(key, key), false);
        }
        SplitDirectory none = new SplitDirectory();
        due(12, "together(256, 0) of none", none.together(256, 0), false);
        due(12, "together(0, -1) of none", none.together(0, -1), false);
    }

    private static void ofDepth() {
        SplitDirectory x = deep();
        int[] counts = {0, 1, 1, 1, 1, 1, 2, 0, 0, 0};
        for (int d = 0; d < counts.length; d++) {
            due(13, "ofDepth(" + d + ")", x.ofDepth(d), counts[d]);
        }
        SplitDirectory all = full();
        due(13, "ofDepth(3) when full", all.ofDepth(3), 0);
        due(13, "ofDepth(4) when full", all.ofDepth(4), 16);
        int[] notDepths = {-1, -32, 31, 32, 33, 38, 64, Integer.MIN_VALUE, Integer.MAX_VALUE};
        SplitDirectory none = new SplitDirectory();
        for (int d : notDepths) {
            due(13, "ofDepth(" + d + ")", x.ofDepth(d), 0);
            due(13, "ofDepth(" + d + ") of none", none.ofDepth(d), 0);
        }
    }

    private static void next() {
        SplitDirectory x = with(200, 5, 0, 255);
        due(14, "next(MIN)", x.next(Integer.MIN_VALUE), 0);
        due(14, "next(-1)", x.next(-1), 0);
        due(14, "next(0)", x.next(0), 0);
        due(14, "next(1)", x.next(1), 5);
        due(14, "next(5)", x.next(5), 5);
        due(14, "next(6)", x.next(6), 200);
        due(14, "next(201)", x.next(201), 255);
        due(14, "next(255)", x.next(255), 255);
        due(14, "next(256)", x.next(256), BAD);
        due(14, "next(MAX)", x.next(Integer.MAX_VALUE), BAD);
        x.remove(255);
        due(14, "next(201) when 255 is out", x.next(201), BAD);
        due(14, "next(-7) of none", new SplitDirectory().next(-7), BAD);
    }

    private static void growth() {
        SplitDirectory x = with(0, 64, 128, 192);
        due(15, "growth(32)", x.growth(32), 6);
        due(15, "growth(16)", x.growth(16), 5);
        due(15, "growth(1)", x.growth(1), 1);
        due(15, "growth(0), there", x.growth(0), 0);
        due(15, "size() after growth", x.size(), 4);
        due(15, "has(32) after growth", x.has(32), false);
        due(15, "buckets() after growth", x.buckets(), 1);
        for (int key : NOT_KEYS) {
            due(15, "growth(" + key + ")", x.growth(key), BAD);
        }
        SplitDirectory y = deep();
        due(15, "growth(96) with room", y.growth(96), 0);
        due(15, "growth(0), there in a full bucket", y.growth(0), 0);
        due(15, "growth(255) of none", new SplitDirectory().growth(255), 0);
        due(15, "growth(5) of three", with(1, 2, 3).growth(5), 0);
    }

    private static void growthWhenFull() {
        SplitDirectory x = new SplitDirectory();
        for (int i = 0; i < 10; i++) {
            for (int upper = 0; upper < 4; upper++) {
                x.put(i + 64 * upper, 1);
            }
        }
        due(15, "size()", x.size(), 40);
        due(15, "growth(18) when 40 are there", x.growth(18), 2);
        due(15, "growth(34) when 40 are there", x.growth(34), 3);
        due(15, "growth(0) when 40 are there", x.growth(0), 0);
        due(15, "growth(256) when 40 are there", x.growth(256), BAD);
        due(15, "put(18, 1) when 40 are there", x.put(18, 1), FULL);
    }

    public static void main(String[] args) {
        newObject();
        put();
        putWhenFull();
        remove();
        has();
        get();
        size();
        buckets();
        deepest();
        depthOf();
        load();
        inBucket();
        together();
        ofDepth();
        next();
        growth();
        growthWhenFull();
        System.out.println(wrong == 0 ? "all promises are kept" : wrong + " answers are not as due");
        if (wrong != 0) {
            System.exit(1);
        }
    }
}
