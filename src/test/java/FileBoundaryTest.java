/** The sentences of the promises about files that name a boundary, each with a test of its own. */
public final class FileBoundaryTest extends Tests {
    private static final String SMALL_PICTURE = "3x2 1 2 3 4 5 6";
    private static final String FULL_PICTURE = text(8, 8, Tests::fullAt);
    private static final String FULL_FILE_PICTURE = text(8, 8, Tests::fullFileAt);

    private static void newObjectHasNoFile() {
        for (int n = 0; n < 4; n++) {
            Vault v = new Vault();
            due("file " + n, v.facts(n), "0 0 0 0");
            due("load(" + n + ", 0)", v.load(n, 0), NONE);
            due("convert(" + n + ", 0, 0)", v.convert(n, 0, 0), NONE);
            due("duplicate(" + n + ", 0)", v.duplicate(n, 0), NONE);
            due("damage(" + n + ", 0)", v.damage(n, 0), NONE);
            due("cut(" + n + ", 1)", v.cut(n, 1), NONE);
        }
    }

    private interface Writing {
        int on(Vault v, int format);
    }

    /** The file gets what image SMALL and file INTACT hold, in whichever format. */
    private static void writesInEachFormat(String text, int file, Writing writing) {
        for (int format = 0; format < 4; format++) {
            int as = format;
            String then = "1 " + format + " 3 2: " + SMALL_PICTURE;
            changesFile(text + " in format " + format, v -> writing.on(v, as), 6, file, then);
        }
    }

    private static void saveMakesAFileThatIsThere() {
        writesInEachFormat("save", ABSENT, (v, format) -> v.save(SMALL, ABSENT, format));
    }

    private static void saveGoesOverAnIntactFile() {
        changesFile("save over a smaller one", v -> v.save(FULL, INTACT, 0), 64, INTACT, "1 0 8 8: " + FULL_PICTURE);
        changesFile("save over a larger one", v -> v.save(DOT, FULL_FILE, 1), 1, FULL_FILE, "1 1 1 1: 1x1 99");
    }

    private static void saveMakesADamagedFileIntact() {
        writesInEachFormat("save", DAMAGED, (v, format) -> v.save(SMALL, DAMAGED, format));
    }

    private static void saveTakesTheSmallestAndTheLargest() {
        changesFile("save of 1x1", v -> v.save(DOT, ABSENT, 3), 1, ABSENT, "1 3 1 1: 1x1 99");
        changesFile("save of 8x8", v -> v.save(FULL, ABSENT, 3), 64, ABSENT, "1 3 8 8: " + FULL_PICTURE);
    }

    private static void fileIsApartFromItsImage() {
        Vault v = stocked();
        v.save(SMALL, ABSENT, 1);
        v.level(SMALL, 0, 7);
        v.load(ABSENT, DOT);
        due("the file after a change of the image", v.picture(DOT), SMALL_PICTURE);
        v.level(DOT, 0, 8);
        v.load(ABSENT, FULL);
        due("the file after a change of what was loaded", v.picture(FULL), SMALL_PICTURE);
    }

    private static void loadMakesAnImageThatIsThere() {
        changesImage("load to one that isn't there", v -> v.load(INTACT, ABSENT), 6, ABSENT, SMALL_PICTURE);
        changesImage("load of 8x8", v -> v.load(FULL_FILE, ABSENT), 64, ABSENT, FULL_FILE_PICTURE);
    }

    private static void loadGoesOverAnImage() {
        changesImage("load over a larger one", v -> v.load(INTACT, FULL), 6, FULL, SMALL_PICTURE);
        changesImage("load over a smaller one", v -> v.load(INTACT, DOT), 6, DOT, SMALL_PICTURE);
        changesImage("load over one as large", v -> v.load(FULL_FILE, FULL), 64, FULL, FULL_FILE_PICTURE);
        keeps("load over what was saved", v -> v.load(INTACT, SMALL), 6);
    }

    private static void loadTakesTheSmallest() {
        Vault v = stocked();
        v.save(DOT, INTACT, 0);
        due("load", v.load(INTACT, FULL), 1);
        due("the image", v.picture(FULL), "1x1 99");
    }

    private static void loadNeedsAnIntactFile() {
        for (int image = 0; image < 4; image++) {
            int to = image;
            keeps("load(damaged, " + image + ")", v -> v.load(DAMAGED, to), BAD);
        }
    }

    private static void convertMakesAFileThatIsThere() {
        writesInEachFormat("convert", ABSENT, (v, format) -> v.convert(INTACT, ABSENT, format));
    }

    private static void convertMakesADamagedFileIntact() {
        writesInEachFormat("convert", DAMAGED, (v, format) -> v.convert(INTACT, DAMAGED, format));
    }

    private static void convertGoesOverAnIntactFile() {
        changesFile("convert to a smaller one", v -> v.convert(FULL_FILE, INTACT, 0), 64, INTACT,
            "1 0 8 8: " + FULL_FILE_PICTURE);
        changesFile("convert to a larger one", v -> v.convert(INTACT, FULL_FILE, 0), 6, FULL_FILE,
            "1 0 3 2: " + SMALL_PICTURE);
    }

    private static void convertToItselfChangesTheFormat() {
        writesInEachFormat("convert", INTACT, (v, format) -> v.convert(INTACT, INTACT, format));
    }

    private static void convertTakesTheSmallest() {
        Vault v = stocked();
        v.save(DOT, INTACT, 0);
        due("convert", v.convert(INTACT, FULL_FILE, 3), 1);
        due("the file", v.facts(FULL_FILE), "1 3 1 1");
    }

    private static void convertNeedsAnIntactFile() {
        for (int file = 0; file < 4; file++) {
            for (int format = 0; format < 4; format++) {
                int to = file;
                int as = format;
                keeps("convert(damaged, " + file + ", " + format + ")", v -> v.convert(DAMAGED, to, as), BAD);
            }
        }
    }

    private interface Spoiling {
        int on(Vault v, int file, int number);
    }

    private static void isSpoilt(Spoiling spoiling, int format, int number) {
        Vault v = new Vault();
        v.create(0, 3, 2, 7);
        v.save(0, 0, format);
        String text = "format " + format + ", number " + number;
        due(text, spoiling.on(v, 0, number), 1);
        due(text + ", the file", v.facts(0), "2 0 0 0");
        due(text + ", load", v.load(0, 1), BAD);
        due(text + ", load again", v.load(0, 0), BAD);
        due(text + ", convert", v.convert(0, 1, format), BAD);
    }

    /** More than any file of 64 values has bits, on both sides of 0, and the ends of int. */
    private static void takesAnyNumber(Spoiling spoiling) {
        for (int format = 0; format < 4; format++) {
            for (int number = -1100; number <= 1100; number++) {
                isSpoilt(spoiling, format, number);
            }
            for (int bit = 11; bit < 32; bit++) {
                isSpoilt(spoiling, format, (1 << bit) - 1);
                isSpoilt(spoiling, format, 1 << bit);
                isSpoilt(spoiling, format, -(1 << bit));
            }
        }
    }

    private static void takesTheSmallestAndTheLargest(Spoiling spoiling) {
        for (int number : new int[] {MIN, -1, 0, 1, 63, 64, MAX}) {
            changesFile("of 8x8", v -> spoiling.on(v, FULL_FILE, number), 1, FULL_FILE, "2 0 0 0");
            Vault v = stocked();
            v.save(DOT, INTACT, 0);
            due("of 1x1", spoiling.on(v, INTACT, number), 1);
            due("the file", v.facts(INTACT), "2 0 0 0");
        }
    }

    private static void needsAnIntactFile(Spoiling spoiling) {
        for (int number : new int[] {MIN, -1, 0, 1, 63, 64, MAX}) {
            keeps("with " + number, v -> spoiling.on(v, DAMAGED, number), BAD);
        }
    }

    private static void needsAFile(Spoiling spoiling) {
        for (int number : new int[] {MIN, -1, 0, 1, 63, 64, MAX}) {
            keeps("with " + number, v -> spoiling.on(v, ABSENT, number), NONE);
        }
    }

    /** Two changes of one bit would undo each other: the second call must not be made. */
    private static void isNotUndoneByASecondCall(Spoiling first, Spoiling second) {
        Vault v = stocked();
        due("first", first.on(v, INTACT, 5), 1);
        due("second", second.on(v, INTACT, 5), BAD);
        due("the file", v.facts(INTACT), "2 0 0 0");
        due("load", v.load(INTACT, SMALL), BAD);
    }

    private static void spoilsNoOtherFile(Spoiling spoiling) {
        changesFile("of an intact file", v -> spoiling.on(v, INTACT, 3), 1, INTACT, "2 0 0 0");
        Vault v = stocked();
        v.duplicate(INTACT, ABSENT);
        spoiling.on(v, INTACT, 3);
        due("its duplicate", v.facts(ABSENT), "1 2 3 2");
    }

    private static void duplicateOfAnIntactFile() {
        String then = "1 2 3 2: " + SMALL_PICTURE;
        changesFile("to one that isn't there", v -> v.duplicate(INTACT, ABSENT), 1, ABSENT, then);
        changesFile("to a damaged one", v -> v.duplicate(INTACT, DAMAGED), 1, DAMAGED, then);
        changesFile("to a larger one", v -> v.duplicate(INTACT, FULL_FILE), 1, FULL_FILE, then);
        changesFile("to a smaller one", v -> v.duplicate(FULL_FILE, INTACT), 1, INTACT,
            "1 3 8 8: " + FULL_FILE_PICTURE);
    }

    private static void duplicateOfADamagedFile() {
        changesFile("to one that isn't there", v -> v.duplicate(DAMAGED, ABSENT), 1, ABSENT, "2 0 0 0");
        changesFile("to an intact one", v -> v.duplicate(DAMAGED, INTACT), 1, INTACT, "2 0 0 0");
        Vault v = stocked();
        v.cut(INTACT, 2);
        due("to a damaged one", v.duplicate(INTACT, DAMAGED), 1);
        due("the file", v.facts(DAMAGED), "2 0 0 0");
        due("load", v.load(DAMAGED, SMALL), BAD);
        due("damage", v.damage(DAMAGED, 1), BAD);
    }

    private static void duplicateToItselfChangesNothing() {
        keeps("of an intact file", v -> v.duplicate(INTACT, INTACT), 1);
        keeps("of a full file", v -> v.duplicate(FULL_FILE, FULL_FILE), 1);
        keeps("of a damaged file", v -> v.duplicate(DAMAGED, DAMAGED), 1);
    }

    private static void duplicateIsApartFromItsSource() {
        Vault v = stocked();
        v.duplicate(INTACT, ABSENT);
        v.save(DOT, INTACT, 0);
        due("after a change of the source", v.facts(ABSENT), "1 2 3 2");
        v.load(ABSENT, FULL);
        due("what it holds", v.picture(FULL), SMALL_PICTURE);
        v.damage(ABSENT, 0);
        due("the source after damage of the duplicate", v.facts(INTACT), "1 0 1 1");
    }

    private static void fileTellsWhatIsThere() {
        keeps("file(0, 0)", v -> v.file(INTACT, 0), 1);
        keeps("file(0, 1)", v -> v.file(INTACT, 1), 2);
        keeps("file(0, 2)", v -> v.file(INTACT, 2), 3);
        keeps("file(0, 3)", v -> v.file(INTACT, 3), 2);
        keeps("file(2, 1)", v -> v.file(FULL_FILE, 1), 3);
        keeps("file(2, 2)", v -> v.file(FULL_FILE, 2), 8);
        keeps("file(2, 3)", v -> v.file(FULL_FILE, 3), 8);
    }

    private static void fileTells0OfWhatIsNotThere() {
        for (int what = 0; what <= 3; what++) {
            int asked = what;
            keeps("file(3, " + what + ")", v -> v.file(ABSENT, asked), 0);
        }
    }

    private static void fileTells0OfADamagedOne() {
        keeps("file(1, 0)", v -> v.file(DAMAGED, 0), 2);
        for (int what = 1; what <= 3; what++) {
            int asked = what;
            keeps("file(1, " + what + ")", v -> v.file(DAMAGED, asked), 0);
        }
    }

    private static void fileRefusesOtherWhats() {
        for (int what : new int[] {MIN, -1, 4, 5, 256, MAX}) {
            for (int file = 0; file < 4; file++) {
                int asked = file;
                keeps("file(" + file + ", " + what + ")", v -> v.file(asked, what), REFUSED);
            }
        }
    }

    private static void spoilingTests(String promise, Spoiling first, Spoiling second) {
        test(promise + "any number", () -> takesAnyNumber(first));
        test(promise + "of the smallest and the largest file", () -> takesTheSmallestAndTheLargest(first));
        test(promise + "it must be intact", () -> needsAnIntactFile(first));
        test(promise + "it must be there", () -> needsAFile(first));
        test(promise + "a second time", () -> isNotUndoneByASecondCall(first, first));
        test(promise + "after the other way of damage", () -> isNotUndoneByASecondCall(second, first));
        test(promise + "the file, and no other", () -> spoilsNoOtherFile(first));
    }

    public static void main(String[] args) {
        test("1: no file", FileBoundaryTest::newObjectHasNoFile);
        test("12: the file is there from now on", FileBoundaryTest::saveMakesAFileThatIsThere);
        test("12: holding the image, over an intact file", FileBoundaryTest::saveGoesOverAnIntactFile);
        test("12: intact, over a damaged file", FileBoundaryTest::saveMakesADamagedFileIntact);
        test("12: 1x1 and 8x8", FileBoundaryTest::saveTakesTheSmallestAndTheLargest);
        test("12: holding the image as it was", FileBoundaryTest::fileIsApartFromItsImage);
        test("13: the image is there from now on", FileBoundaryTest::loadMakesAnImageThatIsThere);
        test("13: becomes what the file holds", FileBoundaryTest::loadGoesOverAnImage);
        test("13: 1x1", FileBoundaryTest::loadTakesTheSmallest);
        test("13: the file must be intact", FileBoundaryTest::loadNeedsAnIntactFile);
        test("14: the file to is there from now on", FileBoundaryTest::convertMakesAFileThatIsThere);
        test("14: intact, over a damaged file", FileBoundaryTest::convertMakesADamagedFileIntact);
        test("14: holds what from holds, over an intact file", FileBoundaryTest::convertGoesOverAnIntactFile);
        test("14: to is from", FileBoundaryTest::convertToItselfChangesTheFormat);
        test("14: 1x1", FileBoundaryTest::convertTakesTheSmallest);
        test("14: from must be intact", FileBoundaryTest::convertNeedsAnIntactFile);
        spoilingTests("15, damage: ", Vault::damage, Vault::cut);
        spoilingTests("16, cut: ", Vault::cut, Vault::damage);
        test("17: to becomes what from is", FileBoundaryTest::duplicateOfAnIntactFile);
        test("17: also if that is damaged", FileBoundaryTest::duplicateOfADamagedFile);
        test("17: to is from", FileBoundaryTest::duplicateToItselfChangesNothing);
        test("17: to is apart from from", FileBoundaryTest::duplicateIsApartFromItsSource);
        test("19: 1 intact, its format, width and height", FileBoundaryTest::fileTellsWhatIsThere);
        test("19: 0 if it isn't there, never NONE", FileBoundaryTest::fileTells0OfWhatIsNotThere);
        test("19: 2 and 0 if it is damaged, never BAD", FileBoundaryTest::fileTells0OfADamagedOne);
        test("19: other whats: REFUSED", FileBoundaryTest::fileRefusesOtherWhats);
        end();
    }
}
