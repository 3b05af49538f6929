import java.util.Arrays;

/** Compares mixed runs of calls with a second model, which keeps each picture as rows of its own. */
public final class ModelTest {
    private static final int RUNS = 4000;
    /** The document promises nothing about later calls of an object. */
    private static final int CALLS = 512;
    private static final int KINDS = 19;
    private static final int[] EDGES = {Integer.MIN_VALUE, Integer.MIN_VALUE + 1, -257, -256, -255, -2, -1, 0,
        1, 2, 3, 4, 5, 7, 8, 9, 63, 64, 65, 255, 256, 257, 65536, Integer.MAX_VALUE - 1, Integer.MAX_VALUE};

    private static final class Model {
        final int[][][] images = new int[4][][];
        final int[][][] files = new int[4][][];
        final int[] formats = new int[4];
        final boolean[] damaged = new boolean[4];

        static int[][] cloned(int[][] rows) {
            return part(rows, 0, 0, rows[0].length, rows.length);
        }

        static int[][] part(int[][] rows, int x, int y, int width, int height) {
            int[][] result = new int[height][];
            for (int j = 0; j < height; j++) {
                result[j] = Arrays.copyOfRange(rows[y + j], x, x + width);
            }
            return result;
        }

        static int[][] turned(int[][] rows) {
            int[][] result = new int[rows[0].length][rows.length];
            for (int y = 0; y < result.length; y++) {
                for (int x = 0; x < rows.length; x++) {
                    result[y][x] = rows[rows.length - 1 - x][y];
                }
            }
            return result;
        }

        static int places(int[][] rows) {
            return rows.length * rows[0].length;
        }

        static boolean out(int number) {
            return number < 0 || number > 3;
        }

        int answer(int kind, int a, int b, int c, int d) {
            boolean secondIsNumber = kind == 4 || kind == 10 || kind == 11 || kind == 12 || kind == 15 || kind == 18;
            boolean thirdIsNumber = kind == 10 || kind == 12;
            if (out(a) || secondIsNumber && out(b) || thirdIsNumber && out(c)) {
                return -1;
            }
            if (kind >= 11 && kind <= 15) {
                return fileAnswer(kind, a, b, c);
            }
            if (kind == 0) {
                return create(a, b, c, d);
            }
            if (kind == 16) {
                int[] facts = images[a] == null ? new int[3] : new int[] {1, images[a][0].length, images[a].length};
                return b < 0 || b > 2 ? -1 : facts[b];
            }
            if (kind == 17) {
                boolean readable = files[a] != null && !damaged[a];
                int[] facts = readable ? new int[] {1, formats[a], files[a][0].length, files[a].length}
                    : new int[] {files[a] == null ? 0 : 2, 0, 0, 0};
                return b < 0 || b > 3 ? -1 : facts[b];
            }
            return images[a] == null ? -2 : imageAnswer(kind, a, b, c, d);
        }

        int create(int image, int width, int height, int value) {
            if (width < 1 || width > 8 || height < 1 || height > 8) {
                return -1;
            }
            images[image] = new int[height][width];
            for (int[] row : images[image]) {
                Arrays.fill(row, value & 255);
            }
            return width * height;
        }

        int imageAnswer(int kind, int a, int b, int c, int d) {
            int[][] rows = images[a];
            int width = rows[0].length;
            int height = rows.length;
            boolean place = b >= 0 && b < width && c >= 0 && c < height;
            switch (kind) {
                case 1:
                    if (!place) {
                        return -1;
                    }
                    int old = rows[c][b];
                    rows[c][b] = d & 255;
                    return old;
                case 2:
                    if (c < 1 || b < 0 || (long) b + c > width * height) {
                        return -1;
                    }
                    for (int j = 0; j < c; j++) {
                        rows[(b + j) / width][(b + j) % width] = (int) ((d + j * (long) (d >> 8)) & 255);
                    }
                    return c;
                case 3:
                    return place ? rows[c][b] : -1;
                case 4:
                    images[b] = cloned(rows);
                    return width * height;
                case 5:
                    for (int j = 0; j < (b & 3); j++) {
                        images[a] = turned(images[a]);
                    }
                    return images[a][0].length;
                case 6:
                    int[][] unmirrored = cloned(rows);
                    for (int k = 0; k < width * height; k++) {
                        rows[k / width][k % width] = unmirrored[k / width][width - 1 - k % width];
                    }
                    return width;
                case 7:
                    if (!place) {
                        return -1;
                    }
                    images[a] = part(rows, b, c, width - b, height - c);
                    return places(images[a]);
                case 8:
                    if (b < 1 || b > width || c < 1 || c > height) {
                        return -1;
                    }
                    images[a] = part(rows, 0, 0, b, c);
                    return b * c;
                case 9:
                    for (int k = 0; k < width * height; k++) {
                        rows[k / width][k % width] = (int) ((rows[k / width][k % width] * (long) b + c) & 255);
                    }
                    return width * height;
                case 10:
                    files[b] = cloned(rows);
                    formats[b] = c;
                    damaged[b] = false;
                    return width * height;
                default:
                    return images[b] == null ? -2 : Arrays.deepEquals(rows, images[b]) ? 1 : 0;
            }
        }

        int fileAnswer(int kind, int a, int b, int c) {
            if (files[a] == null) {
                return -2;
            }
            if (kind == 15) {
                files[b] = cloned(files[a]);
                formats[b] = formats[a];
                damaged[b] = damaged[a];
                return 1;
            }
            if (damaged[a]) {
                return -3;
            }
            if (kind == 11) {
                images[b] = cloned(files[a]);
                return places(images[b]);
            }
            if (kind == 12) {
                files[b] = cloned(files[a]);
                formats[b] = c;
                damaged[b] = false;
                return places(files[b]);
            }
            damaged[a] = true;
            return 1;
        }
    }

    private static int answer(ImageVault v, int kind, int a, int b, int c, int d) {
        switch (kind) {
            case 0: return v.create(a, b, c, d);
            case 1: return v.set(a, b, c, d);
            case 2: return v.paint(a, b, c, d);
            case 3: return v.get(a, b, c);
            case 4: return v.copy(a, b);
            case 5: return v.turn(a, b);
            case 6: return v.mirror(a);
            case 7: return v.crop(a, b, c);
            case 8: return v.shrink(a, b, c);
            case 9: return v.level(a, b, c);
            case 10: return v.save(a, b, c);
            case 11: return v.load(a, b);
            case 12: return v.convert(a, b, c);
            case 13: return v.damage(a, b);
            case 14: return v.cut(a, b);
            case 15: return v.duplicate(a, b);
            case 16: return v.image(a, b);
            case 17: return v.file(a, b);
            default: return v.same(a, b);
        }
    }

    private static long state = 1;

    /** A fixed sequence of its own, so that every run of the test makes the same calls. */
    private static int next(int bound) {
        state = state * 6364136223846793005L + 1442695040888963407L;
        return (int) ((state >>> 33) % bound);
    }

    private static int argument() {
        switch (next(16)) {
            case 0: return EDGES[next(EDGES.length)];
            case 1: return next(1 << 30) - (1 << 29);
            case 2:
            case 3: return next(64);
            case 4:
            case 5: return next(9);
            default: return next(4);
        }
    }

    private static int number() {
        return next(40) == 0 ? EDGES[next(EDGES.length)] : next(4);
    }

    /** Mostly calls that do something, with few that make small what is there. */
    private static int kind() {
        int kind = next(KINDS);
        boolean loses = kind == 7 || kind == 8 || kind == 13 || kind == 14;
        return loses && next(3) != 0 ? next(KINDS) : kind;
    }

    /** A second or third argument, in range often enough for the call to do something. */
    private static int extent(int kind, boolean full) {
        switch (kind) {
            case 0: return full ? 8 : next(10);
            case 1:
            case 3: return full && next(2) == 0 ? 7 * next(2) : next(9);
            case 7: return full ? 0 : argument();
            case 8: return full ? 8 : argument();
            case 10:
            case 12: return number();
            default: return argument();
        }
    }

    private static int run(int run) {
        ImageVault v = new ImageVault();
        Model model = new Model();
        // With all pictures as large as can be, a step too far hits the neighbour.
        boolean full = run % 2 == 0;
        for (int call = 0; call < CALLS; call++) {
            int kind = call < 4 ? 0 : call >= CALLS - 128 ? 3 : kind();
            int a = kind == 3 ? next(4) : number();
            int b = extent(kind, full);
            int c = extent(kind, full);
            int d = next(4) == 0 ? argument() : next(1 << 16);
            int got = answer(v, kind, a, b, c, d);
            int want = model.answer(kind, a, b, c, d);
            if (got != want) {
                System.out.println("run " + run + ", call " + call + ": kind " + kind + " of (" + a + ", " + b + ", "
                    + c + ", " + d + ") answered " + got + ", due is " + want);
                return 1;
            }
        }
        return 0;
    }

    public static void main(String[] args) {
        int wrong = 0;
        for (int run = 1; run <= RUNS; run++) {
            wrong += run(run);
        }
        System.out.println(wrong == 0 ? RUNS + " runs are as due" : wrong + " runs are not as due");
        if (wrong != 0) {
            System.exit(1);
        }
    }
}
