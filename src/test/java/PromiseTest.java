/** For each promise its ordinary inputs, the edges that the document names, and wrong inputs. */
public final class PromiseTest {
    private static final int R = ImageVault.REFUSED, N = ImageVault.NONE, B = ImageVault.BAD;
    private static final int MIN = Integer.MIN_VALUE, MAX = Integer.MAX_VALUE;
    private static final int[] OUTSIDE = {MIN, -1, 4, MAX};

    private static int wrong = 0;
    private static String promise = "";

    private static void due(String call, Object got, Object want) {
        if (!got.equals(want)) {
            wrong++;
            System.out.println(promise + ": " + call + " answered " + got + ", due is " + want);
        }
    }

    /** The image as text: "3x2 1 2 3 4 5 6", or "absent". */
    private static String look(ImageVault v, int image) {
        if (v.image(image, 0) == 0) {
            return "absent";
        }
        int width = v.image(image, 1);
        int height = v.image(image, 2);
        StringBuilder text = new StringBuilder(width + "x" + height);
        for (int y = 0; y < height; y++) {
            for (int x = 0; x < width; x++) {
                text.append(' ').append(v.get(image, x, y));
            }
        }
        return text.toString();
    }

    /** State, format, width and height of the file. */
    private static String lookFile(ImageVault v, int file) {
        return v.file(file, 0) + " " + v.file(file, 1) + " " + v.file(file, 2) + " " + v.file(file, 3);
    }

    private static String lookAll(ImageVault v) {
        StringBuilder text = new StringBuilder();
        for (int i = 0; i < 4; i++) {
            text.append(look(v, i)).append(" / ").append(lookFile(v, i)).append('\n');
        }
        return text.toString();
    }

    /** A new vault whose image 0 is of this size with the values 1, 2, 3 .. */
    private static ImageVault counted(int width, int height) {
        ImageVault v = new ImageVault();
        count(v, 0, width, height);
        return v;
    }

    private static void count(ImageVault v, int image, int width, int height) {
        v.create(image, width, height, 0);
        for (int k = 0; k < width * height; k++) {
            v.set(image, k % width, k / width, k + 1);
        }
    }

    /** Image 0 and file 0 (intact, format 2) are 3x2, file 1 is damaged, all else is absent. */
    private static ImageVault mixed() {
        ImageVault v = counted(3, 2);
        v.save(0, 0, 2);
        v.save(0, 1, 3);
        v.damage(1, 0);
        return v;
    }

    private static void newObject() {
        ImageVault v = new ImageVault();
        for (int i = 0; i < 4; i++) {
            due("image " + i, look(v, i), "absent");
            due("file " + i, lookFile(v, i), "0 0 0 0");
            due("get", v.get(i, 0, 0), N);
            due("load", v.load(i, 0), N);
        }
        ImageVault other = new ImageVault();
        other.create(0, 1, 1, 1);
        other.save(0, 0, 1);
        due("beside another object", look(v, 0) + " " + lookFile(v, 0), "absent 0 0 0 0");
        due("REFUSED", R, -1);
        due("NONE", N, -2);
        due("BAD", B, -3);
    }

    private static void create() {
        ImageVault v = new ImageVault();
        due("create(0, 3, 2, 7)", v.create(0, 3, 2, 7), 6);
        due("image 0", look(v, 0), "3x2 7 7 7 7 7 7");
        due("create(3, 8, 8, 255)", v.create(3, 8, 8, 255), 64);
        due("image 3", look(v, 3), "8x8" + " 255".repeat(64));
        due("image 0", look(v, 0), "3x2 7 7 7 7 7 7");
        due("create(2, 1, 8, 256)", v.create(2, 1, 8, 256), 8);
        due("image 2", look(v, 2), "1x8" + " 0".repeat(8));
        due("create(1, 8, 1, -1)", v.create(1, 8, 1, -1), 8);
        due("image 1", look(v, 1), "8x1" + " 255".repeat(8));
        due("create again", v.create(0, 2, 1, MIN + 300), 2);
        due("image 0 again", look(v, 0), "2x1 44 44");
        String before = lookAll(v);
        for (int side : new int[] {MIN, -1, 0, 9, 65536, MAX}) {
            due("width " + side, v.create(0, side, 1, 1), R);
            due("height " + side, v.create(0, 1, side, 1), R);
        }
        due("both sides -2", v.create(0, -2, -2, 1), R);
        for (int image : OUTSIDE) {
            due("create(" + image + ", ..)", v.create(image, 1, 1, 1), R);
        }
        due("after wrong calls", lookAll(v), before);
        ImageVault w = new ImageVault();
        w.create(0, 9, 1, 1);
        due("a refused create", w.image(0, 0), 0);
    }

    private static void set() {
        ImageVault v = counted(3, 2);
        due("set(0, 2, 1, 300)", v.set(0, 2, 1, 300), 6);
        due("image", look(v, 0), "3x2 1 2 3 4 5 44");
        due("set(0, 0, 1, -1)", v.set(0, 0, 1, -1), 4);
        due("set(0, 0, 1, 8)", v.set(0, 0, 1, 8), 255);
        due("set(0, 1, 0, MIN)", v.set(0, 1, 0, MIN), 2);
        due("image", look(v, 0), "3x2 1 0 3 8 5 44");
        noSuchPlace(v);
        for (int image : OUTSIDE) {
            due("set(" + image + ", ..)", v.set(image, 0, 0, 9), R);
        }
        due("absent", v.set(1, 0, 0, 9), N);
        due("absent goes before the place", v.set(1, 9, 9, 9), N);
        due("image after wrong calls", look(v, 0), "3x2 1 0 3 8 5 44");
    }

    /** Asks get and set of image 0, which is 3x2, for places that it hasn't. */
    private static void noSuchPlace(ImageVault v) {
        int[][] places = {{3, 0}, {3, 1}, {0, 2}, {2, 2}, {-1, 0}, {-1, 1}, {0, -1}, {2, -1},
            {MAX, 0}, {MIN, 0}, {0, MAX}, {0, MIN}, {7, 0}, {0, 7}};
        for (int[] place : places) {
            due("get at " + place[0] + ", " + place[1], v.get(0, place[0], place[1]), R);
            due("set at " + place[0] + ", " + place[1], v.set(0, place[0], place[1], 9), R);
        }
    }

    private static void paint() {
        ImageVault v = new ImageVault();
        v.create(0, 3, 2, 9);
        due("paint(0, 1, 4, 5)", v.paint(0, 1, 4, 5), 4);
        due("image", look(v, 0), "3x2 9 5 5 5 5 9");
        due("paint(0, 0, 6, 3 * 256 + 250)", v.paint(0, 0, 6, 3 * 256 + 250), 6);
        due("image", look(v, 0), "3x2 250 253 0 3 6 9");
        due("paint(0, 2, 3, -1)", v.paint(0, 2, 3, -1), 3);
        due("image", look(v, 0), "3x2 250 253 255 254 253 9");
        due("paint(0, 5, 1, 770)", v.paint(0, 5, 1, 770), 1);
        due("image", look(v, 0), "3x2 250 253 255 254 253 2");
        due("paint(0, 0, 6, MIN + 4)", v.paint(0, 0, 6, MIN + 4), 6);
        due("image", look(v, 0), "3x2 4 4 4 4 4 4");
        due("paint(0, 0, 3, MAX)", v.paint(0, 0, 3, MAX), 3);
        due("image", look(v, 0), "3x2 255 254 253 4 4 4");
        int[][] wrongs = {{0, 0}, {0, -1}, {0, MIN}, {-1, 1}, {-1, 3}, {MIN, 1}, {0, 7}, {1, 6},
            {5, 2}, {6, 1}, {7, 1}, {MAX, 1}, {0, MAX}, {1, MAX}, {MAX, MAX}, {6, 0}, {MIN, MIN}};
        for (int[] w : wrongs) {
            due("paint(0, " + w[0] + ", " + w[1] + ", 1)", v.paint(0, w[0], w[1], 1), R);
        }
        for (int image : OUTSIDE) {
            due("paint(" + image + ", ..)", v.paint(image, 0, 1, 1), R);
        }
        due("absent", v.paint(1, 0, 1, 1), N);
        due("absent goes before the count", v.paint(1, -1, 0, 1), N);
        due("image after wrong calls", look(v, 0), "3x2 255 254 253 4 4 4");
        v.create(1, 8, 8, 0);
        due("all 64", v.paint(1, 0, 64, 256), 64);
        due("the last one", v.get(1, 7, 7), 63);
    }

    private static void get() {
        ImageVault v = counted(3, 2);
        due("get(0, 0, 0)", v.get(0, 0, 0), 1);
        due("get(0, 2, 0)", v.get(0, 2, 0), 3);
        due("get(0, 0, 1)", v.get(0, 0, 1), 4);
        due("get(0, 2, 1)", v.get(0, 2, 1), 6);
        noSuchPlace(v);
        for (int image : OUTSIDE) {
            due("get(" + image + ", 0, 0)", v.get(image, 0, 0), R);
        }
        due("absent", v.get(3, 0, 0), N);
        due("absent goes before the place", v.get(3, -1, 8), N);
    }

    private static void copy() {
        ImageVault v = counted(3, 2);
        v.create(1, 8, 8, 9);
        due("copy(0, 1)", v.copy(0, 1), 6);
        due("copy(0, 3)", v.copy(0, 3), 6);
        due("image 1", look(v, 1), "3x2 1 2 3 4 5 6");
        due("image 3", look(v, 3), "3x2 1 2 3 4 5 6");
        v.set(1, 0, 0, 77);
        due("the first stays", look(v, 0), "3x2 1 2 3 4 5 6");
        due("copy(1, 1)", v.copy(1, 1), 6);
        due("image 1", look(v, 1), "3x2 77 2 3 4 5 6");
        String before = lookAll(v);
        for (int image : OUTSIDE) {
            due("copy(" + image + ", 0)", v.copy(image, 0), R);
            due("copy(0, " + image + ")", v.copy(0, image), R);
            due("number goes before absence", v.copy(2, image), R);
        }
        due("copy of an absent one", v.copy(2, 0), N);
        due("copy of an absent one to itself", v.copy(2, 2), N);
        due("after wrong calls", lookAll(v), before);
    }

    private static void turn() {
        String[] turned = {"3x2 1 2 3 4 5 6", "2x3 4 1 5 2 6 3", "3x2 6 5 4 3 2 1", "2x3 3 6 2 5 1 4"};
        int[] quarters = {0, 1, 2, 3, 4, 5, 6, 7, -1, -2, -3, -4, MIN, MAX, MIN + 1};
        for (int q : quarters) {
            ImageVault v = counted(3, 2);
            count(v, 1, 2, 2);
            due("turn(0, " + q + ")", v.turn(0, q), (q & 1) == 0 ? 3 : 2);
            due("image after turn(0, " + q + ")", look(v, 0), turned[q & 3]);
            due("the other image", look(v, 1), "2x2 1 2 3 4");
        }
        ImageVault v = counted(8, 8);
        due("turn(0, 1)", v.turn(0, 1), 8);
        due("corners", v.get(0, 0, 0) + " " + v.get(0, 7, 0) + " " + v.get(0, 7, 7) + " " + v.get(0, 0, 7), "57 1 8 64");
        v.create(1, 1, 8, 3);
        due("a column", v.turn(1, 1), 8);
        due("a column lies", look(v, 1), "8x1" + " 3".repeat(8));
        for (int image : OUTSIDE) {
            due("turn(" + image + ", 1)", v.turn(image, 1), R);
        }
        due("absent", v.turn(2, 1), N);
    }

    private static void mirror() {
        ImageVault v = counted(3, 2);
        count(v, 1, 4, 2);
        count(v, 2, 1, 3);
        due("mirror(0)", v.mirror(0), 3);
        due("odd width", look(v, 0), "3x2 3 2 1 6 5 4");
        due("mirror(1)", v.mirror(1), 4);
        due("even width", look(v, 1), "4x2 4 3 2 1 8 7 6 5");
        due("mirror(2)", v.mirror(2), 1);
        due("width 1", look(v, 2), "1x3 1 2 3");
        count(v, 2, 2, 3);
        due("mirror(2)", v.mirror(2), 2);
        due("higher than wide", look(v, 2), "2x3 2 1 4 3 6 5");
        for (int image : OUTSIDE) {
            due("mirror(" + image + ")", v.mirror(image), R);
        }
        due("absent", v.mirror(3), N);
    }

    private static void crop() {
        ImageVault v = counted(4, 3);
        due("crop(0, 0, 0)", v.crop(0, 0, 0), 12);
        due("image", look(v, 0), "4x3 1 2 3 4 5 6 7 8 9 10 11 12");
        due("crop(0, 1, 0)", v.crop(0, 1, 0), 9);
        due("image", look(v, 0), "3x3 2 3 4 6 7 8 10 11 12");
        due("crop(0, 0, 1)", v.crop(0, 0, 1), 6);
        due("image", look(v, 0), "3x2 6 7 8 10 11 12");
        int[][] wrongs = {{-1, 0}, {0, -1}, {3, 0}, {0, 2}, {4, 0}, {0, 3}, {MIN, 0}, {0, MIN}, {MAX, 0}, {0, MAX}};
        for (int[] w : wrongs) {
            due("crop(0, " + w[0] + ", " + w[1] + ")", v.crop(0, w[0], w[1]), R);
        }
        for (int image : OUTSIDE) {
            due("crop(" + image + ", 0, 0)", v.crop(image, 0, 0), R);
        }
        due("absent", v.crop(1, 0, 0), N);
        due("absent goes before the columns", v.crop(1, -1, 9), N);
        due("image after wrong calls", look(v, 0), "3x2 6 7 8 10 11 12");
        due("crop to one place", v.crop(0, 2, 1), 1);
        due("image", look(v, 0), "1x1 12");
        due("nothing would be left", v.crop(0, 1, 0), R);
    }

    private static void shrink() {
        ImageVault v = counted(4, 3);
        due("shrink(0, 4, 3)", v.shrink(0, 4, 3), 12);
        due("image", look(v, 0), "4x3 1 2 3 4 5 6 7 8 9 10 11 12");
        due("shrink(0, 3, 3)", v.shrink(0, 3, 3), 9);
        due("image", look(v, 0), "3x3 1 2 3 5 6 7 9 10 11");
        due("shrink(0, 3, 2)", v.shrink(0, 3, 2), 6);
        due("image", look(v, 0), "3x2 1 2 3 5 6 7");
        int[][] wrongs = {{0, 1}, {1, 0}, {-1, 1}, {1, -1}, {4, 1}, {1, 3}, {4, 2}, {MIN, 1}, {1, MIN}, {MAX, 1}, {1, MAX}};
        for (int[] w : wrongs) {
            due("shrink(0, " + w[0] + ", " + w[1] + ")", v.shrink(0, w[0], w[1]), R);
        }
        for (int image : OUTSIDE) {
            due("shrink(" + image + ", 1, 1)", v.shrink(image, 1, 1), R);
        }
        due("absent", v.shrink(1, 1, 1), N);
        due("absent goes before the size", v.shrink(1, 0, 9), N);
        due("image after wrong calls", look(v, 0), "3x2 1 2 3 5 6 7");
        due("shrink(0, 1, 1)", v.shrink(0, 1, 1), 1);
        due("image", look(v, 0), "1x1 1");
    }

    private static void level() {
        ImageVault v = counted(3, 2);
        count(v, 1, 2, 2);
        due("level(0, 50, 3)", v.level(0, 50, 3), 6);
        due("image", look(v, 0), "3x2 53 103 153 203 253 47");
        due("level(0, -1, 255)", v.level(0, -1, 255), 6);
        due("image", look(v, 0), "3x2 202 152 102 52 2 208");
        due("level(0, MAX, MIN)", v.level(0, MAX, MIN), 6);
        due("image", look(v, 0), "3x2 54 104 154 204 254 48");
        due("level(0, 1, -60)", v.level(0, 1, -60), 6);
        due("image", look(v, 0), "3x2 250 44 94 144 194 244");
        due("level(0, 0, 513)", v.level(0, 0, 513), 6);
        due("image", look(v, 0), "3x2 1 1 1 1 1 1");
        due("the other image", look(v, 1), "2x2 1 2 3 4");
        for (int image : OUTSIDE) {
            due("level(" + image + ", 1, 1)", v.level(image, 1, 1), R);
        }
        due("absent", v.level(2, 1, 1), N);
    }

    private static void save() {
        for (int format = 0; format < 4; format++) {
            ImageVault v = counted(3, 2);
            due("save", v.save(0, 3 - format, format), 6);
            due("file", lookFile(v, 3 - format), "1 " + format + " 3 2");
            v.level(0, 0, 0);
            due("load", v.load(3 - format, 1), 6);
            due("what was saved", look(v, 1), "3x2 1 2 3 4 5 6");
        }
        ImageVault v = mixed();
        due("save over a damaged file", v.save(0, 1, 1), 6);
        due("it is intact", lookFile(v, 1), "1 1 3 2");
        v.create(1, 1, 2, 8);
        due("save over an intact file", v.save(1, 0, 0), 2);
        due("it is the new one", lookFile(v, 0), "1 0 1 2");
        String before = lookAll(v);
        for (int n : OUTSIDE) {
            due("image " + n, v.save(n, 0, 1), R);
            due("file " + n, v.save(1, n, 1), R);
            due("format " + n, v.save(1, 0, n), R);
            due("file number goes before absence", v.save(2, n, 1), R);
            due("format goes before absence", v.save(2, 0, n), R);
        }
        due("save of an absent image", v.save(2, 0, 1), N);
        due("after wrong calls", lookAll(v), before);
    }

    private static void load() {
        ImageVault v = mixed();
        due("load to an absent image", v.load(0, 3), 6);
        due("image 3", look(v, 3), "3x2 1 2 3 4 5 6");
        v.create(2, 8, 8, 1);
        due("load over an image", v.load(0, 2), 6);
        due("image 2", look(v, 2), "3x2 1 2 3 4 5 6");
        v.level(2, 0, 0);
        v.turn(2, 1);
        due("load again", v.load(0, 2), 6);
        due("the file is as it was", look(v, 2) + " " + lookFile(v, 0), "3x2 1 2 3 4 5 6 1 2 3 2");
        String before = lookAll(v);
        due("damaged", v.load(1, 0), B);
        due("damaged, to an absent image", v.load(1, 1), B);
        due("absent", v.load(2, 0), N);
        for (int n : OUTSIDE) {
            due("file " + n, v.load(n, 0), R);
            due("image " + n, v.load(0, n), R);
            due("image number goes before absence", v.load(2, n), R);
            due("image number goes before damage", v.load(1, n), R);
        }
        due("after wrong calls", lookAll(v), before);
    }

    private static void convert() {
        for (int format = 0; format < 4; format++) {
            ImageVault v = mixed();
            v.level(0, 0, 0);
            due("convert to an absent file", v.convert(0, 3, format), 6);
            due("file 3", lookFile(v, 3), "1 " + format + " 3 2");
            due("file 0", lookFile(v, 0), "1 2 3 2");
            due("convert to a damaged file", v.convert(0, 1, format), 6);
            due("file 1", lookFile(v, 1), "1 " + format + " 3 2");
            due("convert to itself", v.convert(0, 0, format), 6);
            due("file 0", lookFile(v, 0), "1 " + format + " 3 2");
            due("convert what was converted", v.convert(3, 2, 3 - format), 6);
            due("file 2", lookFile(v, 2), "1 " + (3 - format) + " 3 2");
            for (int file = 0; file < 4; file++) {
                v.load(file, 1);
                due("what file " + file + " holds", look(v, 1), "3x2 1 2 3 4 5 6");
            }
        }
        ImageVault v = mixed();
        String before = lookAll(v);
        due("damaged", v.convert(1, 0, 1), B);
        due("damaged, to itself", v.convert(1, 1, 1), B);
        due("absent", v.convert(2, 0, 1), N);
        for (int n : OUTSIDE) {
            due("from " + n, v.convert(n, 0, 1), R);
            due("to " + n, v.convert(0, n, 1), R);
            due("format " + n, v.convert(0, 3, n), R);
            due("format goes before damage", v.convert(1, 0, n), R);
            due("format goes before absence", v.convert(2, 0, n), R);
            due("number goes before absence", v.convert(2, n, 1), R);
        }
        due("after wrong calls", lookAll(v), before);
    }

    private interface Spoiling {
        int call(ImageVault v, int file, int number);
    }

    private static void damage() {
        spoiling(ImageVault::damage, ImageVault::cut);
    }

    private static void cut() {
        spoiling(ImageVault::cut, ImageVault::damage);
    }

    private static void spoiling(Spoiling first, Spoiling second) {
        for (int number : new int[] {MIN, -1, 0, 1, 7, 64, 1000000, MAX}) {
            for (int format = 0; format < 4; format++) {
                ImageVault v = counted(3, 2);
                v.save(0, 0, format);
                v.save(0, 1, format);
                due("with " + number, first.call(v, 0, number), 1);
                due("the file", lookFile(v, 0), "2 0 0 0");
                due("load", v.load(0, 1), B);
                due("once more", first.call(v, 0, number), B);
                due("the other way", second.call(v, 0, number), B);
                due("still damaged", lookFile(v, 0), "2 0 0 0");
                due("the other file", lookFile(v, 1), "1 " + format + " 3 2");
                due("the image", look(v, 0), "3x2 1 2 3 4 5 6");
                due("absent", first.call(v, 2, number), N);
                due("absent stays", lookFile(v, 2), "0 0 0 0");
                for (int file : OUTSIDE) {
                    due("file " + file, first.call(v, file, number), R);
                }
            }
        }
    }

    private static void duplicate() {
        ImageVault v = mixed();
        v.level(0, 0, 0);
        due("intact to absent", v.duplicate(0, 2), 1);
        due("file 2", lookFile(v, 2), "1 2 3 2");
        v.load(2, 1);
        due("what file 2 holds", look(v, 1), "3x2 1 2 3 4 5 6");
        due("damaged to absent", v.duplicate(1, 3), 1);
        due("file 3", lookFile(v, 3), "2 0 0 0");
        due("load of a damaged duplicate", v.load(3, 1), B);
        due("damaged to intact", v.duplicate(1, 2), 1);
        due("file 2", lookFile(v, 2), "2 0 0 0");
        due("intact to damaged", v.duplicate(0, 1), 1);
        due("file 1", lookFile(v, 1), "1 2 3 2");
        due("intact to itself", v.duplicate(0, 0), 1);
        due("file 0", lookFile(v, 0), "1 2 3 2");
        due("damaged to itself", v.duplicate(2, 2), 1);
        due("file 2", lookFile(v, 2), "2 0 0 0");
        v.damage(0, 5);
        due("a duplicate is a file of its own", lookFile(v, 1), "1 2 3 2");
        ImageVault w = mixed();
        String before = lookAll(w);
        for (int n : OUTSIDE) {
            due("from " + n, w.duplicate(n, 0), R);
            due("to " + n, w.duplicate(0, n), R);
            due("number goes before absence", w.duplicate(2, n), R);
        }
        due("absent", w.duplicate(2, 0), N);
        due("absent to itself", w.duplicate(2, 2), N);
        due("after wrong calls", lookAll(w), before);
    }

    private static void image() {
        ImageVault v = counted(3, 2);
        due("there", v.image(0, 0), 1);
        due("width", v.image(0, 1), 3);
        due("height", v.image(0, 2), 2);
        due("not there", v.image(1, 0), 0);
        due("width of none", v.image(1, 1), 0);
        due("height of none", v.image(1, 2), 0);
        for (int what : new int[] {MIN, -1, 3, 4, MAX}) {
            due("image(0, " + what + ")", v.image(0, what), R);
            due("image(1, " + what + ")", v.image(1, what), R);
        }
        for (int image : OUTSIDE) {
            for (int what = 0; what < 4; what++) {
                due("image(" + image + ", " + what + ")", v.image(image, what), R);
            }
        }
    }

    private static void file() {
        ImageVault v = mixed();
        due("intact", lookFile(v, 0), "1 2 3 2");
        due("damaged", lookFile(v, 1), "2 0 0 0");
        due("not there", lookFile(v, 2), "0 0 0 0");
        for (int what : new int[] {MIN, -1, 4, 5, MAX}) {
            for (int file = 0; file < 3; file++) {
                due("file(" + file + ", " + what + ")", v.file(file, what), R);
            }
        }
        for (int file : OUTSIDE) {
            for (int what = 0; what < 5; what++) {
                due("file(" + file + ", " + what + ")", v.file(file, what), R);
            }
        }
    }

    private static void same() {
        ImageVault v = counted(3, 2);
        v.copy(0, 1);
        due("a copy", v.same(0, 1), 1);
        due("itself", v.same(0, 0), 1);
        for (int k = 0; k < 6; k++) {
            v.copy(0, 1);
            v.set(1, k % 3, k / 3, 99);
            due("another value at " + k, v.same(0, 1) + " " + v.same(1, 0), "0 0");
        }
        v.create(1, 2, 3, 0);
        v.paint(1, 0, 6, 257);
        v.create(0, 3, 2, 0);
        v.paint(0, 0, 6, 257);
        due("exchanged sides", v.same(0, 1), 0);
        v.create(1, 3, 1, 0);
        v.paint(1, 0, 3, 257);
        due("a row less", v.same(0, 1) + " " + v.same(1, 0), "0 0");
        v.create(1, 2, 2, 5);
        v.create(0, 1, 2, 5);
        due("a column less", v.same(0, 1) + " " + v.same(1, 0), "0 0");
        v.create(0, 8, 8, 1);
        v.create(1, 8, 8, 2);
        v.shrink(0, 1, 1);
        v.shrink(1, 1, 1);
        v.set(1, 0, 0, 1);
        due("what was cut off does not count", v.same(0, 1), 1);
        for (int n : OUTSIDE) {
            due("same(" + n + ", 0)", v.same(n, 0), R);
            due("same(0, " + n + ")", v.same(0, n), R);
            due("number goes before absence", v.same(2, n), R);
        }
        due("first absent", v.same(2, 0), N);
        due("second absent", v.same(0, 2), N);
        due("both absent", v.same(2, 3), N);
        due("absent and itself", v.same(2, 2), N);
    }

    private static void test(String name, Runnable body) {
        promise = name;
        body.run();
    }

    public static void main(String[] args) {
        test("promise 1, new object", PromiseTest::newObject);
        test("promise 2, create", PromiseTest::create);
        test("promise 3, set", PromiseTest::set);
        test("promise 4, paint", PromiseTest::paint);
        test("promise 5, get", PromiseTest::get);
        test("promise 6, copy", PromiseTest::copy);
        test("promise 7, turn", PromiseTest::turn);
        test("promise 8, mirror", PromiseTest::mirror);
        test("promise 9, crop", PromiseTest::crop);
        test("promise 10, shrink", PromiseTest::shrink);
        test("promise 11, level", PromiseTest::level);
        test("promise 12, save", PromiseTest::save);
        test("promise 13, load", PromiseTest::load);
        test("promise 14, convert", PromiseTest::convert);
        test("promise 15, damage", PromiseTest::damage);
        test("promise 16, cut", PromiseTest::cut);
        test("promise 17, duplicate", PromiseTest::duplicate);
        test("promise 18, image", PromiseTest::image);
        test("promise 19, file", PromiseTest::file);
        test("promise 20, same", PromiseTest::same);
        System.out.println(wrong == 0 ? "all answers are as due" : wrong + " answers are not as due");
        if (wrong != 0) {
            System.exit(1);
        }
    }
}
