import java.util.Map;
import java.util.TreeMap;
import java.util.function.IntBinaryOperator;

/** What the tests are made of: each has a name, and answers that are not the ones due are counted. */
abstract class Tests {
    static final int REFUSED = -1, NONE = -2, BAD = -3;
    static final int MIN = Integer.MIN_VALUE, MAX = Integer.MAX_VALUE;
    /** No image, file or format: just beyond 0 .. 3 on either side, and the least and the greatest int. */
    static final int[] OUTSIDE = {MIN, -1, 4, MAX};

    /** The images of a stocked vault; ABSENT is both an image and a file. */
    static final int SMALL = 0, FULL = 1, DOT = 2, ABSENT = 3;
    /** The files of a stocked vault. */
    static final int INTACT = 0, DAMAGED = 1, FULL_FILE = 2;

    private static int tests = 0;
    private static int wrong = 0;
    private static String name = "";

    interface Call {
        int on(Vault v);
    }

    static void test(String newName, Runnable body) {
        tests++;
        name = newName;
        try {
            body.run();
        } catch (RuntimeException e) {
            fail("threw " + e);
        }
    }

    static void due(String call, Object got, Object want) {
        if (!got.equals(want)) {
            fail(call + " answered " + got + ", due is " + want);
        }
    }

    private static void fail(String what) {
        wrong++;
        System.out.println(name + ": " + what);
    }

    static void end() {
        System.out.println(tests + " tests, " + wrong + " wrong answers");
        if (wrong != 0) {
            System.exit(1);
        }
    }

    /**
     * Images: SMALL is 3x2, FULL is 8x8, DOT is 1x1. Files: INTACT holds SMALL in format 2, DAMAGED is
     * damaged, FULL_FILE is 8x8 in format 3, with other values than FULL.
     */
    static Vault stocked() {
        Vault v = new Vault();
        v.make(SMALL, 3, 2, Tests::smallAt);
        v.make(FULL, 8, 8, Tests::fullFileAt);
        v.save(FULL, FULL_FILE, 3);
        v.make(FULL, 8, 8, Tests::fullAt);
        v.create(DOT, 1, 1, 99);
        v.save(SMALL, INTACT, 2);
        v.save(SMALL, DAMAGED, 1);
        v.damage(DAMAGED, 0);
        return v;
    }

    /** What everything() is due to show of a stocked vault. */
    static Map<String, String> stock() {
        Map<String, String> all = new TreeMap<>();
        all.put("image 0", "3x2 1 2 3 4 5 6");
        all.put("image 1", text(8, 8, Tests::fullAt));
        all.put("image 2", "1x1 99");
        all.put("image 3", "absent");
        all.put("file 0", "1 2 3 2: 3x2 1 2 3 4 5 6");
        all.put("file 1", "2 0 0 0");
        all.put("file 2", "1 3 8 8: " + text(8, 8, Tests::fullFileAt));
        all.put("file 3", "0 0 0 0");
        return all;
    }

    static int smallAt(int x, int y) {
        return 1 + 3 * y + x;
    }

    static int fullAt(int x, int y) {
        return 11 + 24 * y + 3 * x;
    }

    static int fullFileAt(int x, int y) {
        return 10 + 24 * y + 3 * x;
    }

    /** A vault whose image 0 is of this size, with the values 1, 2, 3 .. in the order of the places. */
    static Vault counted(int width, int height) {
        Vault v = new Vault();
        v.make(0, width, height, (x, y) -> 1 + y * width + x);
        return v;
    }

    /** A picture as text: "3x2 1 2 3 4 5 6". */
    static String text(int width, int height, IntBinaryOperator at) {
        StringBuilder text = new StringBuilder(width + "x" + height);
        for (int y = 0; y < height; y++) {
            for (int x = 0; x < width; x++) {
                text.append(' ').append(at.applyAsInt(x, y));
            }
        }
        return text.toString();
    }

    /** On a stocked vault the call has this answer, and nothing changes. */
    static void keeps(String text, Call call, int answer) {
        check(text, call, answer, stock());
    }

    /** On a stocked vault the call has this answer, and this image becomes so and nothing else changes. */
    static void changesImage(String text, Call call, int answer, int image, String then) {
        Map<String, String> all = stock();
        all.put("image " + image, then);
        check(text, call, answer, all);
    }

    /** On a stocked vault the call has this answer, and this file becomes so and nothing else changes. */
    static void changesFile(String text, Call call, int answer, int file, String then) {
        Map<String, String> all = stock();
        all.put("file " + file, then);
        check(text, call, answer, all);
    }

    private static void check(String text, Call call, int answer, Map<String, String> all) {
        Vault v = stocked();
        due(text, call.on(v), answer);
        Map<String, String> seen = v.everything();
        for (String which : all.keySet()) {
            due(which + " after " + text, seen.get(which), all.get(which));
        }
    }
}
