import java.util.Map;
import java.util.TreeMap;
import java.util.function.IntBinaryOperator;

/** An ImageVault under test: it shows all that it holds, and counts its calls. */
final class Vault {
    /** Nothing is promised about later calls, so no test may make one. */
    static final int LAST_CALL = 512;

    private final ImageVault vault = new ImageVault();
    private int calls = 0;

    void make(int image, int width, int height, IntBinaryOperator at) {
        create(image, width, height, 0);
        for (int y = 0; y < height; y++) {
            for (int x = 0; x < width; x++) {
                set(image, x, y, at.applyAsInt(x, y));
            }
        }
    }

    /** What the image is, as text, or "absent". */
    String picture(int image) {
        if (image(image, 0) == 0) {
            return "absent";
        }
        return Tests.text(image(image, 1), image(image, 2), (x, y) -> get(image, x, y));
    }

    /** State, format, width and height of the file: "1 2 3 2". */
    String facts(int file) {
        return file(file, 0) + " " + file(file, 1) + " " + file(file, 2) + " " + file(file, 3);
    }

    /** All that can be seen. It is the end of the vault: what a file holds is seen by loading it over image 0. */
    Map<String, String> everything() {
        Map<String, String> all = new TreeMap<>();
        for (int n = 0; n < 4; n++) {
            all.put("image " + n, picture(n));
        }
        for (int n = 0; n < 4; n++) {
            String held = load(n, 0) < 0 ? "" : ": " + picture(0);
            all.put("file " + n, facts(n) + held);
        }
        return all;
    }

    /** Asks until the next call is the last one that counts. */
    void spendAllButOne() {
        while (calls < LAST_CALL - 1) {
            image(0, 0);
        }
    }

    private ImageVault next() {
        calls++;
        if (calls > LAST_CALL) {
            throw new IllegalStateException("the test makes more than " + LAST_CALL + " calls of one object");
        }
        return vault;
    }

    int create(int image, int width, int height, int value) {
        return next().create(image, width, height, value);
    }

    int set(int image, int x, int y, int value) {
        return next().set(image, x, y, value);
    }

    int paint(int image, int from, int count, int value) {
        return next().paint(image, from, count, value);
    }

    int get(int image, int x, int y) {
        return next().get(image, x, y);
    }

    int copy(int from, int to) {
        return next().copy(from, to);
    }

    int turn(int image, int quarters) {
        return next().turn(image, quarters);
    }

    int mirror(int image) {
        return next().mirror(image);
    }

    int crop(int image, int x, int y) {
        return next().crop(image, x, y);
    }

    int shrink(int image, int width, int height) {
        return next().shrink(image, width, height);
    }

    int level(int image, int factor, int offset) {
        return next().level(image, factor, offset);
    }

    int save(int image, int file, int format) {
        return next().save(image, file, format);
    }

    int load(int file, int image) {
        return next().load(file, image);
    }

    int convert(int from, int to, int format) {
        return next().convert(from, to, format);
    }

    int damage(int file, int spot) {
        return next().damage(file, spot);
    }

    int cut(int file, int bytes) {
        return next().cut(file, bytes);
    }

    int duplicate(int from, int to) {
        return next().duplicate(from, to);
    }

    int image(int image, int what) {
        return next().image(image, what);
    }

    int file(int file, int what) {
        return next().file(file, what);
    }

    int same(int a, int b) {
        return next().same(a, b);
    }
}
