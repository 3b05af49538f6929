/** The sentences of "What it is" and "Terms" that name a boundary, each with a test of its own. */
public final class TermsTest extends Tests {
    private static void lastCall(String text, Call call, int answer) {
        Vault v = stocked();
        v.spendAllButOne();
        due(text + " as the 512th call", call.on(v), answer);
    }

    private static void eachCallMayBeTheLast() {
        lastCall("create", v -> v.create(ABSENT, 8, 8, 1), 64);
        lastCall("set", v -> v.set(SMALL, 2, 1, 1), 6);
        lastCall("paint", v -> v.paint(FULL, 0, 64, 1), 64);
        lastCall("get", v -> v.get(FULL, 7, 7), fullAt(7, 7));
        lastCall("copy", v -> v.copy(FULL, SMALL), 64);
        lastCall("turn", v -> v.turn(SMALL, 1), 2);
        lastCall("mirror", v -> v.mirror(SMALL), 3);
        lastCall("crop", v -> v.crop(SMALL, 2, 0), 2);
        lastCall("shrink", v -> v.shrink(SMALL, 2, 1), 2);
        lastCall("level", v -> v.level(FULL, 1, 1), 64);
        lastCall("save", v -> v.save(FULL, DAMAGED, 3), 64);
        lastCall("load", v -> v.load(INTACT, ABSENT), 6);
        lastCall("convert", v -> v.convert(INTACT, ABSENT, 3), 6);
        lastCall("damage", v -> v.damage(INTACT, 1), 1);
        lastCall("cut", v -> v.cut(INTACT, 1), 1);
        lastCall("duplicate", v -> v.duplicate(DAMAGED, ABSENT), 1);
        lastCall("image", v -> v.image(FULL, 1), 8);
        lastCall("file", v -> v.file(DAMAGED, 0), 2);
        lastCall("same", v -> v.same(SMALL, SMALL), 1);
    }

    private static void lastCallButOneHasItsEffect() {
        Vault v = new Vault();
        v.create(0, 8, 8, 0);
        for (int n = 1; n <= 510; n++) {
            int old = Math.max(0, n - 64) & 255;
            due("set after " + n + " calls", v.set(0, n % 8, n / 8 % 8, n), old);
        }
        due("get, call 512", v.get(0, 6, 7), 510 & 255);
    }

    private static void imagesAreFour() {
        for (int n = 0; n < 4; n++) {
            int width = n + 1;
            Vault v = new Vault();
            due("create", v.create(n, width, 1, 5), width);
            due("set", v.set(n, 0, 0, 9), 5);
            due("paint", v.paint(n, 0, width, 7), width);
            due("get", v.get(n, 0, 0), 7);
            due("copy", v.copy(n, 3 - n), width);
            due("copy back", v.copy(3 - n, n), width);
            due("turn", v.turn(n, 2), width);
            due("mirror", v.mirror(n), width);
            due("crop", v.crop(n, 0, 0), width);
            due("shrink", v.shrink(n, width, 1), width);
            due("level", v.level(n, 1, 0), width);
            due("save", v.save(n, 0, 0), width);
            due("load", v.load(0, n), width);
            due("image", v.image(n, 1), width);
            due("same", v.same(n, 3 - n), 1);
        }
    }

    private static void imagesAreApart() {
        Vault v = new Vault();
        for (int n = 0; n < 4; n++) {
            int image = n;
            v.make(n, 8, 8, (x, y) -> 60 * image + y + x);
        }
        for (int n = 0; n < 4; n++) {
            due("first of image " + n, v.get(n, 0, 0), 60 * n);
            due("last of image " + n, v.get(n, 7, 7), 60 * n + 14);
        }
    }

    private static void imageIsThereOrNot() {
        for (int made = 0; made < 4; made++) {
            Vault v = new Vault();
            v.create(made, 1, 1, 0);
            for (int n = 0; n < 4; n++) {
                due("image(" + n + ", 0)", v.image(n, 0), n == made ? 1 : 0);
                due("get(" + n + ", 0, 0)", v.get(n, 0, 0), n == made ? 0 : NONE);
            }
        }
    }

    private static void sides() {
        for (int width = 1; width <= 8; width++) {
            for (int height = 1; height <= 8; height++) {
                Vault v = new Vault();
                due("places", v.create(3, width, height, 0), width * height);
                due("width", v.image(3, 1), width);
                due("height", v.image(3, 2), height);
            }
        }
    }

    private static void places() {
        for (int width = 1; width <= 8; width++) {
            for (int height = 1; height <= 8; height++) {
                Vault v = new Vault();
                v.create(3, width, height, 9);
                due("first", v.get(3, 0, 0), 9);
                due("last", v.get(3, width - 1, height - 1), 9);
                due("left of the first", v.get(3, -1, 0), REFUSED);
                due("above the first", v.get(3, 0, -1), REFUSED);
                due("right of the last", v.get(3, width, height - 1), REFUSED);
                due("below the last", v.get(3, width - 1, height), REFUSED);
            }
        }
    }

    private static void values() {
        Vault v = new Vault();
        v.create(0, 1, 1, 0);
        for (int value = 0; value <= 255; value++) {
            due("old value", v.set(0, 0, 0, value), value == 0 ? 0 : value - 1);
        }
        due("greatest value", v.get(0, 0, 0), 255);
        v.set(0, 0, 0, 256);
        due("the one beyond it", v.get(0, 0, 0), 0);
        v.set(0, 0, 0, -1);
        due("the one below 0", v.get(0, 0, 0), 255);
    }

    private static void placeNumbers() {
        for (int width = 1; width <= 8; width++) {
            for (int height = 1; height <= 8; height++) {
                Vault v = new Vault();
                v.create(0, width, height, 0);
                for (int k = 0; k < width * height; k++) {
                    v.paint(0, k, 1, 100 + k);
                    due("place number " + k, v.get(0, k % width, k / width), 100 + k);
                }
            }
        }
    }

    private static void filesAreFour() {
        for (int n = 0; n < 4; n++) {
            Vault v = new Vault();
            v.create(0, 2, 1, 5);
            due("save", v.save(0, n, 1), 2);
            due("load", v.load(n, 0), 2);
            due("convert to itself", v.convert(n, n, 3), 2);
            due("file", v.file(n, 1), 3);
            due("duplicate", v.duplicate(n, 3 - n), 1);
            due("duplicate back", v.duplicate(3 - n, n), 1);
            due("convert", v.convert(n, 3 - n, 0), 2);
            due("convert back", v.convert(3 - n, n, 0), 2);
            due("damage", v.damage(n, 1), 1);
            v.save(0, n, 1);
            due("cut", v.cut(n, 1), 1);
            due("file", v.file(n, 0), 2);
        }
    }

    private static void filesAreApart() {
        Vault v = new Vault();
        v.create(0, 8, 8, 0);
        for (int n = 0; n < 4; n++) {
            v.set(0, 0, 0, 10 * n);
            v.set(0, 7, 7, 10 * n + 1);
            v.save(0, n, 3 - n);
        }
        for (int n = 0; n < 4; n++) {
            v.load(n, 1);
            due("first of file " + n, v.get(1, 0, 0), 10 * n);
            due("last of file " + n, v.get(1, 7, 7), 10 * n + 1);
            due("format of file " + n, v.file(n, 1), 3 - n);
        }
    }

    private static void fileIsThereOrNot() {
        for (int made = 0; made < 4; made++) {
            Vault v = new Vault();
            v.create(0, 1, 1, 0);
            v.save(0, made, 0);
            for (int n = 0; n < 4; n++) {
                due("file(" + n + ", 0)", v.file(n, 0), n == made ? 1 : 0);
                due("load(" + n + ", 0)", v.load(n, 0), n == made ? 1 : NONE);
            }
        }
    }

    private static void fileHoldsWhatItWasWrittenWith() {
        for (int format = 0; format < 4; format++) {
            Vault v = stocked();
            v.save(SMALL, INTACT, format);
            v.create(SMALL, 8, 8, 200);
            due("the file", v.facts(INTACT), "1 " + format + " 3 2");
            due("load", v.load(INTACT, SMALL), 6);
            due("what was written", v.picture(SMALL), "3x2 1 2 3 4 5 6");
        }
    }

    private static void formatsAreFour() {
        for (int format = 0; format < 4; format++) {
            Vault v = stocked();
            due("save", v.save(SMALL, ABSENT, format), 6);
            due("format saved", v.file(ABSENT, 1), format);
            due("convert", v.convert(INTACT, DAMAGED, format), 6);
            due("format converted to", v.file(DAMAGED, 1), format);
        }
    }

    private static void fileIsIntactOrDamaged() {
        Vault v = stocked();
        due("intact", v.file(INTACT, 0), 1);
        v.cut(INTACT, 1);
        due("damaged", v.file(INTACT, 0), 2);
        v.save(SMALL, INTACT, 0);
        due("intact again", v.file(INTACT, 0), 1);
        v.damage(INTACT, 1);
        due("damaged again", v.file(INTACT, 0), 2);
    }

    private static void formatsKeepEveryValue() {
        for (int format = 0; format < 4; format++) {
            for (int first = 0; first < 256; first += 64) {
                Vault v = new Vault();
                int lowest = first;
                v.make(0, 8, 8, (x, y) -> lowest + 8 * y + x);
                formatKeeps(v, format);
            }
        }
    }

    private static void formatsKeepEverySize() {
        for (int format = 0; format < 4; format++) {
            for (int width = 1; width <= 8; width++) {
                for (int height = 1; height <= 8; height++) {
                    formatKeeps(counted(width, height), format);
                }
            }
        }
    }

    /** A format that tells how often a value follows on itself has its boundaries here. */
    private static void formatsKeepEveryRun() {
        for (int format = 0; format < 4; format++) {
            for (int length = 1; length <= 64; length++) {
                for (int value : new int[] {0, 1, 127, 128, 254, 255}) {
                    Vault v = new Vault();
                    v.create(0, 8, 8, 255 - value);
                    v.paint(0, 0, length, value);
                    formatKeeps(v, format);
                    v.mirror(0);
                    v.turn(0, 2);
                    formatKeeps(v, format);
                }
            }
        }
    }

    private static void formatKeeps(Vault v, int format) {
        String before = v.picture(0);
        v.save(0, 1, format);
        v.load(1, 2);
        due("what format " + format + " keeps", v.picture(2), before);
        v.convert(1, 3, 3 - format);
        v.load(3, 2);
        due("what format " + (3 - format) + " keeps", v.same(0, 2), 1);
    }

    private static void noSuchImage() {
        for (int n : OUTSIDE) {
            keeps("create(" + n + ", ..)", v -> v.create(n, 1, 1, 1), REFUSED);
            keeps("set(" + n + ", ..)", v -> v.set(n, 0, 0, 50), REFUSED);
            keeps("paint(" + n + ", ..)", v -> v.paint(n, 0, 1, 50), REFUSED);
            keeps("get(" + n + ", ..)", v -> v.get(n, 0, 0), REFUSED);
            keeps("copy(" + n + ", 0)", v -> v.copy(n, SMALL), REFUSED);
            keeps("copy(0, " + n + ")", v -> v.copy(SMALL, n), REFUSED);
            keeps("turn(" + n + ", ..)", v -> v.turn(n, 1), REFUSED);
            keeps("mirror(" + n + ")", v -> v.mirror(n), REFUSED);
            keeps("crop(" + n + ", ..)", v -> v.crop(n, 0, 0), REFUSED);
            keeps("shrink(" + n + ", ..)", v -> v.shrink(n, 1, 1), REFUSED);
            keeps("level(" + n + ", ..)", v -> v.level(n, 2, 1), REFUSED);
            keeps("save(" + n + ", ..)", v -> v.save(n, INTACT, 0), REFUSED);
            keeps("load(0, " + n + ")", v -> v.load(INTACT, n), REFUSED);
            keeps("image(" + n + ", ..)", v -> v.image(n, 0), REFUSED);
            keeps("same(" + n + ", 0)", v -> v.same(n, SMALL), REFUSED);
            keeps("same(0, " + n + ")", v -> v.same(SMALL, n), REFUSED);
        }
    }

    private static void noSuchFile() {
        for (int n : OUTSIDE) {
            keeps("save(0, " + n + ", ..)", v -> v.save(SMALL, n, 0), REFUSED);
            keeps("load(" + n + ", 0)", v -> v.load(n, SMALL), REFUSED);
            keeps("convert(" + n + ", 0, ..)", v -> v.convert(n, INTACT, 0), REFUSED);
            keeps("convert(0, " + n + ", ..)", v -> v.convert(INTACT, n, 0), REFUSED);
            keeps("damage(" + n + ", ..)", v -> v.damage(n, 0), REFUSED);
            keeps("cut(" + n + ", ..)", v -> v.cut(n, 1), REFUSED);
            keeps("duplicate(" + n + ", 0)", v -> v.duplicate(n, INTACT), REFUSED);
            keeps("duplicate(0, " + n + ")", v -> v.duplicate(INTACT, n), REFUSED);
            keeps("file(" + n + ", ..)", v -> v.file(n, 0), REFUSED);
        }
    }

    private static void noSuchFormat() {
        for (int n : OUTSIDE) {
            keeps("save(0, 0, " + n + ")", v -> v.save(SMALL, INTACT, n), REFUSED);
            keeps("save(0, 1, " + n + ")", v -> v.save(SMALL, DAMAGED, n), REFUSED);
            keeps("save(0, 3, " + n + ")", v -> v.save(SMALL, ABSENT, n), REFUSED);
            keeps("convert(0, 0, " + n + ")", v -> v.convert(INTACT, INTACT, n), REFUSED);
            keeps("convert(0, 1, " + n + ")", v -> v.convert(INTACT, DAMAGED, n), REFUSED);
            keeps("convert(0, 3, " + n + ")", v -> v.convert(INTACT, ABSENT, n), REFUSED);
        }
    }

    private static void absentImage() {
        keeps("set", v -> v.set(ABSENT, 0, 0, 50), NONE);
        keeps("paint", v -> v.paint(ABSENT, 0, 1, 50), NONE);
        keeps("get", v -> v.get(ABSENT, 0, 0), NONE);
        keeps("copy", v -> v.copy(ABSENT, SMALL), NONE);
        keeps("copy to itself", v -> v.copy(ABSENT, ABSENT), NONE);
        keeps("turn", v -> v.turn(ABSENT, 1), NONE);
        keeps("turn by nothing", v -> v.turn(ABSENT, 0), NONE);
        keeps("mirror", v -> v.mirror(ABSENT), NONE);
        keeps("crop", v -> v.crop(ABSENT, 0, 0), NONE);
        keeps("shrink", v -> v.shrink(ABSENT, 1, 1), NONE);
        keeps("level", v -> v.level(ABSENT, 2, 1), NONE);
        keeps("save over an intact file", v -> v.save(ABSENT, INTACT, 0), NONE);
        keeps("save over a damaged file", v -> v.save(ABSENT, DAMAGED, 0), NONE);
        keeps("save to an absent file", v -> v.save(ABSENT, ABSENT, 0), NONE);
        keeps("same, the first", v -> v.same(ABSENT, SMALL), NONE);
        keeps("same, the second", v -> v.same(SMALL, ABSENT), NONE);
        keeps("same, both", v -> v.same(ABSENT, ABSENT), NONE);
    }

    private static void absentFile() {
        keeps("load", v -> v.load(ABSENT, SMALL), NONE);
        keeps("load to an absent image", v -> v.load(ABSENT, ABSENT), NONE);
        keeps("convert to an intact file", v -> v.convert(ABSENT, INTACT, 0), NONE);
        keeps("convert to a damaged file", v -> v.convert(ABSENT, DAMAGED, 0), NONE);
        keeps("convert to itself", v -> v.convert(ABSENT, ABSENT, 0), NONE);
        keeps("damage", v -> v.damage(ABSENT, 0), NONE);
        keeps("cut", v -> v.cut(ABSENT, 1), NONE);
        keeps("duplicate to an intact file", v -> v.duplicate(ABSENT, INTACT), NONE);
        keeps("duplicate to a damaged file", v -> v.duplicate(ABSENT, DAMAGED), NONE);
        keeps("duplicate to itself", v -> v.duplicate(ABSENT, ABSENT), NONE);
    }

    private static void damagedFile() {
        keeps("load", v -> v.load(DAMAGED, SMALL), BAD);
        keeps("load to an absent image", v -> v.load(DAMAGED, ABSENT), BAD);
        keeps("convert to an intact file", v -> v.convert(DAMAGED, INTACT, 0), BAD);
        keeps("convert to an absent file", v -> v.convert(DAMAGED, ABSENT, 0), BAD);
        keeps("convert to itself", v -> v.convert(DAMAGED, DAMAGED, 0), BAD);
        keeps("damage", v -> v.damage(DAMAGED, 0), BAD);
        keeps("cut", v -> v.cut(DAMAGED, 1), BAD);
    }

    private static void numbersGoBeforeAbsence() {
        for (int n : OUTSIDE) {
            keeps("copy(absent, " + n + ")", v -> v.copy(ABSENT, n), REFUSED);
            keeps("copy(" + n + ", absent)", v -> v.copy(n, ABSENT), REFUSED);
            keeps("save(absent, " + n + ", 0)", v -> v.save(ABSENT, n, 0), REFUSED);
            keeps("save(absent, 0, " + n + ")", v -> v.save(ABSENT, INTACT, n), REFUSED);
            keeps("load(absent, " + n + ")", v -> v.load(ABSENT, n), REFUSED);
            keeps("load(" + n + ", absent)", v -> v.load(n, ABSENT), REFUSED);
            keeps("convert(absent, " + n + ", 0)", v -> v.convert(ABSENT, n, 0), REFUSED);
            keeps("convert(absent, 0, " + n + ")", v -> v.convert(ABSENT, INTACT, n), REFUSED);
            keeps("convert(" + n + ", absent, 0)", v -> v.convert(n, ABSENT, 0), REFUSED);
            keeps("duplicate(absent, " + n + ")", v -> v.duplicate(ABSENT, n), REFUSED);
            keeps("duplicate(" + n + ", absent)", v -> v.duplicate(n, ABSENT), REFUSED);
            keeps("same(absent, " + n + ")", v -> v.same(ABSENT, n), REFUSED);
            keeps("same(" + n + ", absent)", v -> v.same(n, ABSENT), REFUSED);
        }
    }

    private static void numbersGoBeforeDamage() {
        for (int n : OUTSIDE) {
            keeps("load(damaged, " + n + ")", v -> v.load(DAMAGED, n), REFUSED);
            keeps("convert(damaged, " + n + ", 0)", v -> v.convert(DAMAGED, n, 0), REFUSED);
            keeps("convert(damaged, 0, " + n + ")", v -> v.convert(DAMAGED, INTACT, n), REFUSED);
            keeps("convert(" + n + ", damaged, 0)", v -> v.convert(n, DAMAGED, 0), REFUSED);
            keeps("duplicate(damaged, " + n + ")", v -> v.duplicate(DAMAGED, n), REFUSED);
            keeps("duplicate(" + n + ", damaged)", v -> v.duplicate(n, DAMAGED), REFUSED);
        }
    }

    private static void absenceGoesBeforeOtherArguments() {
        for (int n : new int[] {MIN, -1, 8, 9, 64, MAX}) {
            keeps("set(absent, " + n + ", 0, 50)", v -> v.set(ABSENT, n, 0, 50), NONE);
            keeps("set(absent, 0, " + n + ", 50)", v -> v.set(ABSENT, 0, n, 50), NONE);
            keeps("get(absent, " + n + ", 0)", v -> v.get(ABSENT, n, 0), NONE);
            keeps("get(absent, 0, " + n + ")", v -> v.get(ABSENT, 0, n), NONE);
            keeps("paint(absent, " + n + ", 1, 50)", v -> v.paint(ABSENT, n, 1, 50), NONE);
            keeps("paint(absent, 0, " + n + ", 50)", v -> v.paint(ABSENT, 0, n, 50), NONE);
            keeps("crop(absent, " + n + ", 0)", v -> v.crop(ABSENT, n, 0), NONE);
            keeps("crop(absent, 0, " + n + ")", v -> v.crop(ABSENT, 0, n), NONE);
            keeps("shrink(absent, " + n + ", 1)", v -> v.shrink(ABSENT, n, 1), NONE);
            keeps("shrink(absent, 1, " + n + ")", v -> v.shrink(ABSENT, 1, n), NONE);
        }
        keeps("paint(absent, 0, 0, 50)", v -> v.paint(ABSENT, 0, 0, 50), NONE);
        keeps("shrink(absent, 0, 0)", v -> v.shrink(ABSENT, 0, 0), NONE);
    }

    private static void everythingWrongAtOnce() {
        for (int n : OUTSIDE) {
            keeps("create", v -> v.create(n, n, n, n), REFUSED);
            keeps("set", v -> v.set(n, n, n, n), REFUSED);
            keeps("paint", v -> v.paint(n, n, n, n), REFUSED);
            keeps("get", v -> v.get(n, n, n), REFUSED);
            keeps("copy", v -> v.copy(n, n), REFUSED);
            keeps("crop", v -> v.crop(n, n, n), REFUSED);
            keeps("shrink", v -> v.shrink(n, n, n), REFUSED);
            keeps("save", v -> v.save(n, n, n), REFUSED);
            keeps("load", v -> v.load(n, n), REFUSED);
            keeps("convert", v -> v.convert(n, n, n), REFUSED);
            keeps("duplicate", v -> v.duplicate(n, n), REFUSED);
            keeps("image", v -> v.image(n, n), REFUSED);
            keeps("file", v -> v.file(n, n), REFUSED);
            keeps("same", v -> v.same(n, n), REFUSED);
        }
    }

    private static void refusalsLeaveANewObjectEmpty() {
        Vault v = new Vault();
        v.create(0, 9, 1, 1);
        v.create(1, 1, 0, 1);
        v.create(4, 1, 1, 1);
        v.set(0, 0, 0, 1);
        v.copy(0, 1);
        v.save(0, 0, 0);
        v.load(0, 0);
        v.convert(0, 1, 0);
        v.duplicate(0, 1);
        v.damage(0, 0);
        v.cut(0, 1);
        for (int n = 0; n < 4; n++) {
            due("image " + n, v.picture(n), "absent");
            due("file " + n, v.facts(n), "0 0 0 0");
        }
    }

    public static void main(String[] args) {
        test("at most 512 calls: each call may be the 512th", TermsTest::eachCallMayBeTheLast);
        test("at most 512 calls: the 511th has its effect", TermsTest::lastCallButOneHasItsEffect);
        test("IMAGES 0 .. 3", TermsTest::imagesAreFour);
        test("IMAGES 0 .. 3, one apart from the other", TermsTest::imagesAreApart);
        test("an image is there or not", TermsTest::imageIsThereOrNot);
        test("a width 1 .. 8, a height 1 .. 8", TermsTest::sides);
        test("0 <= x < width, 0 <= y < height", TermsTest::places);
        test("a VALUE 0 .. 255", TermsTest::values);
        test("place number k is (k % width, k / width)", TermsTest::placeNumbers);
        test("FILES 0 .. 3", TermsTest::filesAreFour);
        test("FILES 0 .. 3, one apart from the other", TermsTest::filesAreApart);
        test("a file is there or not", TermsTest::fileIsThereOrNot);
        test("a file holds what it was written with", TermsTest::fileHoldsWhatItWasWrittenWith);
        test("a format 0 .. 3", TermsTest::formatsAreFour);
        test("INTACT or DAMAGED", TermsTest::fileIsIntactOrDamaged);
        test("all formats keep all values, each value", TermsTest::formatsKeepEveryValue);
        test("all formats keep all values, each size", TermsTest::formatsKeepEverySize);
        test("all formats keep all values, each run", TermsTest::formatsKeepEveryRun);
        test("an image that is not 0 .. 3: REFUSED", TermsTest::noSuchImage);
        test("a file that is not 0 .. 3: REFUSED", TermsTest::noSuchFile);
        test("a format that is not 0 .. 3: REFUSED", TermsTest::noSuchFormat);
        test("an image that must be there and isn't: NONE", TermsTest::absentImage);
        test("a file that must be there and isn't: NONE", TermsTest::absentFile);
        test("a damaged file where an intact one is needed: BAD", TermsTest::damagedFile);
        test("first the numbers, then absence", TermsTest::numbersGoBeforeAbsence);
        test("first the numbers, then damage", TermsTest::numbersGoBeforeDamage);
        test("absence, then other arguments", TermsTest::absenceGoesBeforeOtherArguments);
        test("all arguments wrong at once", TermsTest::everythingWrongAtOnce);
        test("then nothing changes, in a new object", TermsTest::refusalsLeaveANewObjectEmpty);
        end();
    }
}
