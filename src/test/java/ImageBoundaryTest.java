/** The sentences of the promises about images that name a boundary, each with a test of its own. */
public final class ImageBoundaryTest extends Tests {
    /** The sides of SMALL, FULL and DOT. */
    private static final int[] WIDTHS = {3, 8, 1};
    private static final int[] HEIGHTS = {2, 8, 1};
    /** On both sides of the boundaries of & 255, and the ends of int. */
    private static final int[] VALUES = {MIN, MIN + 1, -257, -256, -255, -1, 0, 1, 254, 255, 256, 257, MAX - 1, MAX};
    /** No widths and heights of an image; the last but one, times 8, wraps around to 8. */
    private static final int[] NO_SIDES = {MIN, -8, -1, 0, 9, 16, 64, 257, 65536, (1 << 29) + 1, MAX};

    /** The value of image SMALL, FULL or DOT of a stocked vault. */
    private static int stockAt(int image, int x, int y) {
        return image == SMALL ? smallAt(x, y) : image == FULL ? fullAt(x, y) : 99;
    }

    private interface ImageCall {
        int on(Vault v, int image, int x, int y);
    }

    private static void refused(String name, int image, int x, int y, ImageCall call) {
        keeps(name + "(" + image + ", " + x + ", " + y + ")", v -> call.on(v, image, x, y), REFUSED);
    }

    /** All that is just beyond a side or far off, in one direction and in both. */
    private static void eachMissingPlace(String name, ImageCall call) {
        for (int image = SMALL; image <= DOT; image++) {
            int width = WIDTHS[image];
            int height = HEIGHTS[image];
            for (int x : new int[] {MIN, -1, width, width + 1, MAX}) {
                refused(name, image, x, 0, call);
                refused(name, image, x, height - 1, call);
                refused(name, image, x, -1, call);
                refused(name, image, x, height, call);
            }
            for (int y : new int[] {MIN, -1, height, height + 1, MAX}) {
                refused(name, image, 0, y, call);
                refused(name, image, width - 1, y, call);
            }
        }
    }

    /** Places that are not there though y * width + x, with or without wrap-around, is a place's number. */
    private static void eachMissingPlaceWithANumber(String name, ImageCall call) {
        refused(name, SMALL, 5, 0, call);
        refused(name, SMALL, -3, 1, call);
        refused(name, SMALL, 6, -1, call);
        refused(name, FULL, 63, 0, call);
        refused(name, FULL, -8, 1, call);
        refused(name, FULL, 0, 1 << 29, call);
        refused(name, FULL, 7, (1 << 29) + 7, call);
        refused(name, FULL, 0, MIN, call);
        refused(name, FULL, MIN, 1 << 28, call);
        refused(name, SMALL, MAX, MIN + 1, call);
    }

    private static void newObjectHasNoImage() {
        for (int n = 0; n < 4; n++) {
            Vault v = new Vault();
            due("image(" + n + ", 0)", v.image(n, 0), 0);
            due("image(" + n + ", 1)", v.image(n, 1), 0);
            due("image(" + n + ", 2)", v.image(n, 2), 0);
            due("get(" + n + ", 0, 0)", v.get(n, 0, 0), NONE);
            due("mirror(" + n + ")", v.mirror(n), NONE);
            due("save(" + n + ", 0, 0)", v.save(n, 0, 0), NONE);
        }
    }

    private static void newObjectIsApart() {
        Vault first = stocked();
        Vault second = new Vault();
        for (int n = 0; n < 4; n++) {
            due("image " + n + " of the second", second.picture(n), "absent");
            due("file " + n + " of the second", second.facts(n), "0 0 0 0");
        }
        due("the first", first.everything(), stock());
    }

    private static void createMakesAnImageThatIsThere() {
        changesImage("create where none is", v -> v.create(ABSENT, 2, 1, 7), 2, ABSENT, "2x1 7 7");
        changesImage("create over a smaller one", v -> v.create(DOT, 2, 1, 7), 2, DOT, "2x1 7 7");
        changesImage("create over a larger one", v -> v.create(FULL, 2, 1, 7), 2, FULL, "2x1 7 7");
    }

    private static void createTakesSides1To8() {
        changesImage("create 1x1", v -> v.create(ABSENT, 1, 1, 7), 1, ABSENT, "1x1 7");
        changesImage("create 8x1", v -> v.create(ABSENT, 8, 1, 7), 8, ABSENT, "8x1" + " 7".repeat(8));
        changesImage("create 1x8", v -> v.create(ABSENT, 1, 8, 7), 8, ABSENT, "1x8" + " 7".repeat(8));
        changesImage("create 8x8", v -> v.create(ABSENT, 8, 8, 7), 64, ABSENT, "8x8" + " 7".repeat(64));
    }

    private static void noSize(int width, int height) {
        String text = "create(.., " + width + ", " + height + ", 7)";
        keeps(text + " of one that is there", v -> v.create(SMALL, width, height, 7), REFUSED);
        keeps(text + " of one that isn't", v -> v.create(ABSENT, width, height, 7), REFUSED);
    }

    private static void createRefusesOtherWidths() {
        for (int width : NO_SIDES) {
            noSize(width, 1);
            noSize(width, 8);
        }
    }

    private static void createRefusesOtherHeights() {
        for (int height : NO_SIDES) {
            noSize(1, height);
            noSize(8, height);
        }
    }

    /** The product of each is 0 .. 64, if need be by wrap-around. */
    private static void createRefusesTwoWrongSides() {
        noSize(0, 0);
        noSize(-1, -1);
        noSize(-8, -8);
        noSize(0, 9);
        noSize(65536, 65536);
        noSize(MIN, MIN);
        noSize(MAX, MAX);
    }

    private static void createKeepsTheValuesLowBits() {
        for (int value : VALUES) {
            String all = text(8, 8, (x, y) -> value & 255);
            changesImage("create of " + value, v -> v.create(SMALL, 8, 8, value), 64, SMALL, all);
        }
    }

    private static void setReachesTheFirstAndTheLastPlace() {
        for (int image = SMALL; image <= DOT; image++) {
            int lastX = WIDTHS[image] - 1;
            int lastY = HEIGHTS[image] - 1;
            setAt(image, 0, 0);
            setAt(image, lastX, 0);
            setAt(image, 0, lastY);
            setAt(image, lastX, lastY);
        }
    }

    private static void setAt(int image, int atX, int atY) {
        String then = text(WIDTHS[image], HEIGHTS[image],
            (x, y) -> x == atX && y == atY ? 250 : stockAt(image, x, y));
        changesImage("set(" + image + ", " + atX + ", " + atY + ", 250)", v -> v.set(image, atX, atY, 250),
            stockAt(image, atX, atY), image, then);
    }

    private static void setKeepsTheValuesLowBits() {
        for (int value : VALUES) {
            changesImage("set of " + value, v -> v.set(DOT, 0, 0, value), 99, DOT, "1x1 " + (value & 255));
        }
    }

    private static void setAnswersTheOldValue() {
        Vault v = stocked();
        due("first set", v.set(DOT, 0, 0, 255), 99);
        due("set after 255", v.set(DOT, 0, 0, 0), 255);
        due("set after 0", v.set(DOT, 0, 0, -1), 0);
        due("set after -1", v.set(DOT, 0, 0, 256), 255);
        due("set after 256", v.set(DOT, 0, 0, 1), 0);
    }

    private static void setRefusesMissingPlaces() {
        eachMissingPlace("set", (v, image, x, y) -> v.set(image, x, y, 250));
    }

    private static void setRefusesMissingPlacesWithANumber() {
        eachMissingPlaceWithANumber("set", (v, image, x, y) -> v.set(image, x, y, 250));
    }

    /** Paints places that are all there. */
    private static void painted(int image, int from, int count, int value) {
        int width = WIDTHS[image];
        String then = text(width, HEIGHTS[image], (x, y) -> {
            long j = y * width + x - from;
            boolean hit = j >= 0 && j < count;
            return hit ? (int) ((value + j * (value >> 8)) & 255) : stockAt(image, x, y);
        });
        changesImage("paint(" + image + ", " + from + ", " + count + ", " + value + ")",
            v -> v.paint(image, from, count, value), count, image, then);
    }

    private static void paintReachesTheFirstAndTheLastPlace() {
        painted(SMALL, 0, 1, 250);
        painted(SMALL, 5, 1, 250);
        painted(SMALL, 2, 2, 250);
        painted(SMALL, 0, 6, 250);
        painted(SMALL, 1, 5, 250);
        painted(FULL, 0, 1, 250);
        painted(FULL, 63, 1, 250);
        painted(FULL, 0, 64, 250);
        painted(FULL, 1, 63, 250);
        painted(FULL, 0, 63, 250);
        painted(DOT, 0, 1, 250);
    }

    private static void paintWrapsItsValues() {
        for (int value : VALUES) {
            painted(FULL, 0, 64, value);
            painted(FULL, 60, 4, value);
            painted(DOT, 0, 1, value);
        }
        painted(FULL, 0, 64, 3 * 256 + 250);
        painted(FULL, 0, 64, -3 * 256 + 5);
        painted(FULL, 0, 64, 255 * 256 + 255);
        painted(FULL, 0, 64, 128 * 256 + 1);
        painted(FULL, 0, 64, MAX - 128 * 256);
        painted(FULL, 0, 64, MIN + 129 * 256);
    }

    private static void notPainted(int image, int from, int count) {
        keeps("paint(" + image + ", " + from + ", " + count + ", 250)",
            v -> v.paint(image, from, count, 250), REFUSED);
    }

    private static void paintRefusesCountsBelow1() {
        for (int count : new int[] {0, -1, -6, -64, MIN, MIN + 1}) {
            notPainted(SMALL, 0, count);
            notPainted(SMALL, 5, count);
            notPainted(SMALL, 6, count);
            notPainted(FULL, 63, count);
            notPainted(DOT, 0, count);
        }
    }

    private static void paintRefusesFromBelow0() {
        for (int from : new int[] {-1, -6, -64, MIN, MIN + 1}) {
            notPainted(SMALL, from, 1);
            notPainted(SMALL, from, 2);
            notPainted(SMALL, from, 6);
            notPainted(FULL, from, 64);
            notPainted(DOT, from, 1);
        }
    }

    private static void paintRefusesPlacesThatAreNotThere() {
        notPainted(SMALL, 6, 1);
        notPainted(SMALL, 5, 2);
        notPainted(SMALL, 0, 7);
        notPainted(SMALL, 1, 6);
        notPainted(SMALL, 63, 1);
        notPainted(SMALL, 0, 64);
        notPainted(FULL, 64, 1);
        notPainted(FULL, 63, 2);
        notPainted(FULL, 0, 65);
        notPainted(FULL, 1, 64);
        notPainted(DOT, 1, 1);
        notPainted(DOT, 0, 2);
        notPainted(DOT, MAX, 1);
        notPainted(DOT, 0, MAX);
    }

    /** from + count is beyond the greatest int and wraps around to something small. */
    private static void paintRefusesSumsThatWrap() {
        notPainted(SMALL, MAX, 1);
        notPainted(SMALL, MAX, 2);
        notPainted(SMALL, 1, MAX);
        notPainted(SMALL, 5, MAX);
        notPainted(SMALL, MAX, MAX);
        notPainted(SMALL, MAX - 2, 4);
        notPainted(FULL, MAX - 62, 64);
        notPainted(FULL, 63, MAX - 62);
    }

    /** One that is below its range and one that makes up for it in the sum. */
    private static void paintRefusesTwoWrongArguments() {
        notPainted(SMALL, -1, 0);
        notPainted(SMALL, -1, 7);
        notPainted(SMALL, 7, -1);
        notPainted(SMALL, 7, 0);
        notPainted(SMALL, MIN, MIN);
        notPainted(SMALL, MIN, MAX);
        notPainted(SMALL, MAX, MIN);
    }

    private static void getReachesEveryPlace() {
        Vault v = stocked();
        for (int image = SMALL; image <= DOT; image++) {
            int which = image;
            String want = text(WIDTHS[image], HEIGHTS[image], (x, y) -> stockAt(which, x, y));
            due("image " + image, v.picture(image), want);
        }
    }

    private static void getRefusesMissingPlaces() {
        eachMissingPlace("get", Vault::get);
    }

    private static void getRefusesMissingPlacesWithANumber() {
        eachMissingPlaceWithANumber("get", Vault::get);
    }

    private static void copyTakesEverySize() {
        String small = "3x2 1 2 3 4 5 6";
        String full = text(8, 8, Tests::fullAt);
        changesImage("copy to one that isn't there", v -> v.copy(SMALL, ABSENT), 6, ABSENT, small);
        changesImage("copy to a larger one", v -> v.copy(SMALL, FULL), 6, FULL, small);
        changesImage("copy to a smaller one", v -> v.copy(SMALL, DOT), 6, DOT, small);
        changesImage("copy of the smallest", v -> v.copy(DOT, FULL), 1, FULL, "1x1 99");
        changesImage("copy of the largest", v -> v.copy(FULL, ABSENT), 64, ABSENT, full);
        changesImage("copy of the largest to the smallest", v -> v.copy(FULL, DOT), 64, DOT, full);
    }

    private static void copyToItselfChangesNothing() {
        keeps("copy of the small one", v -> v.copy(SMALL, SMALL), 6);
        keeps("copy of the full one", v -> v.copy(FULL, FULL), 64);
        keeps("copy of the dot", v -> v.copy(DOT, DOT), 1);
    }

    private static void copyIsApartFromItsSource() {
        Vault v = stocked();
        v.copy(SMALL, ABSENT);
        v.set(SMALL, 0, 0, 250);
        due("the copy after a change of the source", v.picture(ABSENT), "3x2 1 2 3 4 5 6");
        v.set(ABSENT, 2, 1, 251);
        due("the source after a change of the copy", v.picture(SMALL), "3x2 250 2 3 4 5 6");
    }

    private static void turnCountsQuartersByTheirLowBits() {
        String[] turned = {"3x2 1 2 3 4 5 6", "2x3 4 1 5 2 6 3", "3x2 6 5 4 3 2 1", "2x3 3 6 2 5 1 4"};
        int[] widths = {3, 2, 3, 2};
        for (int quarters : new int[] {0, 1, 2, 3, 4, 5, 6, 7, 8, -1, -2, -3, -4, -5, MIN, MIN + 1, MAX - 1, MAX}) {
            int turns = quarters & 3;
            changesImage("turn(0, " + quarters + ")", v -> v.turn(SMALL, quarters), widths[turns],
                SMALL, turned[turns]);
        }
    }

    private static void turnTakesTheGreatestAndTheSmallest() {
        changesImage("turn(1, 1)", v -> v.turn(FULL, 1), 8, FULL, text(8, 8, (x, y) -> fullAt(y, 7 - x)));
        changesImage("turn(1, 2)", v -> v.turn(FULL, 2), 8, FULL, text(8, 8, (x, y) -> fullAt(7 - x, 7 - y)));
        changesImage("turn(1, 3)", v -> v.turn(FULL, 3), 8, FULL, text(8, 8, (x, y) -> fullAt(7 - y, x)));
        for (int quarters = 0; quarters < 4; quarters++) {
            int turns = quarters;
            keeps("turn(2, " + quarters + ")", v -> v.turn(DOT, turns), 1);
        }
    }

    private static void turnTakesSingleRowsAndColumns() {
        Vault v = counted(8, 1);
        due("a row, by one", v.turn(0, 1), 1);
        due("it stands", v.picture(0), "1x8 1 2 3 4 5 6 7 8");
        due("a column, by one", v.turn(0, 1), 8);
        due("it lies", v.picture(0), "8x1 8 7 6 5 4 3 2 1");
        due("a row, by three", v.turn(0, 3), 1);
        due("it stands", v.picture(0), "1x8 1 2 3 4 5 6 7 8");
        due("a column, by two", v.turn(0, 2), 1);
        due("it is upside down", v.picture(0), "1x8 8 7 6 5 4 3 2 1");
    }

    private static void mirrorTakesEveryWidth() {
        for (int width = 1; width <= 8; width++) {
            for (int height = 1; height <= 8; height += 7) {
                int columns = width;
                Vault v = counted(width, height);
                due("mirror", v.mirror(0), width);
                due("the image", v.picture(0), text(width, height, (x, y) -> 1 + y * columns + columns - 1 - x));
            }
        }
    }

    private static void mirrorLeavesOthers() {
        changesImage("mirror(0)", v -> v.mirror(SMALL), 3, SMALL, "3x2 3 2 1 6 5 4");
        changesImage("mirror(1)", v -> v.mirror(FULL), 8, FULL, text(8, 8, (x, y) -> fullAt(7 - x, y)));
        keeps("mirror(2)", v -> v.mirror(DOT), 1);
    }

    private static void cropped(int image, int left, int top) {
        int width = WIDTHS[image] - left;
        int height = HEIGHTS[image] - top;
        String then = text(width, height, (x, y) -> stockAt(image, left + x, top + y));
        changesImage("crop(" + image + ", " + left + ", " + top + ")", v -> v.crop(image, left, top), width * height,
            image, then);
    }

    private static void cropTakesFromNothingToAllButOne() {
        for (int image = SMALL; image <= DOT; image++) {
            for (int left = 0; left < WIDTHS[image]; left++) {
                for (int top = 0; top < HEIGHTS[image]; top++) {
                    cropped(image, left, top);
                }
            }
        }
    }

    private static void cropRefusesBelow0() {
        for (int image = SMALL; image <= DOT; image++) {
            for (int below : new int[] {-1, -2, -8, MIN, MIN + 1}) {
                refused("crop", image, below, 0, Vault::crop);
                refused("crop", image, 0, below, Vault::crop);
                refused("crop", image, below, below, Vault::crop);
                refused("crop", image, below, HEIGHTS[image] - 1, Vault::crop);
                refused("crop", image, WIDTHS[image] - 1, below, Vault::crop);
            }
        }
    }

    private static void cropRefusesToLeaveNoColumn() {
        for (int image = SMALL; image <= DOT; image++) {
            for (int columns : new int[] {WIDTHS[image], WIDTHS[image] + 1, 9, 64, MAX - 1, MAX}) {
                refused("crop", image, columns, 0, Vault::crop);
                refused("crop", image, columns, HEIGHTS[image] - 1, Vault::crop);
            }
        }
    }

    private static void cropRefusesToLeaveNoRow() {
        for (int image = SMALL; image <= DOT; image++) {
            for (int rows : new int[] {HEIGHTS[image], HEIGHTS[image] + 1, 9, 64, MAX - 1, MAX}) {
                refused("crop", image, 0, rows, Vault::crop);
                refused("crop", image, WIDTHS[image] - 1, rows, Vault::crop);
            }
        }
    }

    private static void cropRefusesTwoWrongArguments() {
        refused("crop", SMALL, 3, 2, Vault::crop);
        refused("crop", SMALL, -1, 2, Vault::crop);
        refused("crop", SMALL, 3, -1, Vault::crop);
        refused("crop", SMALL, MIN, MAX, Vault::crop);
        refused("crop", FULL, 9, 9, Vault::crop);
    }

    private static void shrunk(int image, int width, int height) {
        String then = text(width, height, (x, y) -> stockAt(image, x, y));
        changesImage("shrink(" + image + ", " + width + ", " + height + ")", v -> v.shrink(image, width, height),
            width * height, image, then);
    }

    private static void shrinkTakesFrom1ToItsSides() {
        for (int image = SMALL; image <= DOT; image++) {
            for (int width = 1; width <= WIDTHS[image]; width++) {
                for (int height = 1; height <= HEIGHTS[image]; height++) {
                    shrunk(image, width, height);
                }
            }
        }
    }

    private static void shrinkRefusesOtherWidths() {
        for (int image = SMALL; image <= DOT; image++) {
            int width = WIDTHS[image];
            for (int wide : new int[] {MIN, -width, -1, 0, width + 1, 9, 257, MAX}) {
                refused("shrink", image, wide, 1, Vault::shrink);
                refused("shrink", image, wide, HEIGHTS[image], Vault::shrink);
            }
        }
    }

    private static void shrinkRefusesOtherHeights() {
        for (int image = SMALL; image <= DOT; image++) {
            int height = HEIGHTS[image];
            for (int high : new int[] {MIN, -height, -1, 0, height + 1, 9, 257, MAX}) {
                refused("shrink", image, 1, high, Vault::shrink);
                refused("shrink", image, WIDTHS[image], high, Vault::shrink);
            }
        }
    }

    private static void shrinkRefusesTwoWrongSides() {
        refused("shrink", SMALL, 0, 0, Vault::shrink);
        refused("shrink", SMALL, -1, -1, Vault::shrink);
        refused("shrink", SMALL, 4, 3, Vault::shrink);
        refused("shrink", SMALL, 0, 3, Vault::shrink);
        refused("shrink", SMALL, 2, 3, Vault::shrink);
        refused("shrink", SMALL, MIN, MAX, Vault::shrink);
        refused("shrink", FULL, 65536, 65536, Vault::shrink);
    }

    private static void leveled(int image, int factor, int offset) {
        int width = WIDTHS[image];
        int height = HEIGHTS[image];
        String then = text(width, height, (x, y) -> (int) (((long) stockAt(image, x, y) * factor + offset) & 255));
        changesImage("level(" + image + ", " + factor + ", " + offset + ")", v -> v.level(image, factor, offset),
            width * height, image, then);
    }

    private static void levelWrapsProductsAndSums() {
        for (int factor : VALUES) {
            for (int offset : VALUES) {
                leveled(SMALL, factor, offset);
            }
            leveled(FULL, factor, 3);
            leveled(DOT, factor, -3);
        }
    }

    private static void levelTakesTheLeastAndTheGreatestValue() {
        for (int value : new int[] {0, 255}) {
            for (int factor : VALUES) {
                Vault v = new Vault();
                v.create(0, 1, 1, value);
                due("level", v.level(0, factor, 1), 1);
                due("value " + value + " after factor " + factor, v.get(0, 0, 0), (value * factor + 1) & 255);
            }
        }
    }

    private static void levelLeavesAllByOneAndNothing() {
        keeps("level(0, 1, 0)", v -> v.level(SMALL, 1, 0), 6);
        keeps("level(1, 1, 0)", v -> v.level(FULL, 1, 0), 64);
        keeps("level(2, 1, 256)", v -> v.level(DOT, 1, 256), 1);
    }

    private static void imageTellsWhatIsThere() {
        keeps("image(0, 0)", v -> v.image(SMALL, 0), 1);
        keeps("image(0, 1)", v -> v.image(SMALL, 1), 3);
        keeps("image(0, 2)", v -> v.image(SMALL, 2), 2);
        keeps("image(1, 1)", v -> v.image(FULL, 1), 8);
        keeps("image(1, 2)", v -> v.image(FULL, 2), 8);
        keeps("image(2, 1)", v -> v.image(DOT, 1), 1);
        keeps("image(2, 2)", v -> v.image(DOT, 2), 1);
    }

    private static void imageTells0OfWhatIsNotThere() {
        for (int what = 0; what <= 2; what++) {
            int asked = what;
            keeps("image(3, " + what + ")", v -> v.image(ABSENT, asked), 0);
        }
    }

    private static void imageRefusesOtherWhats() {
        for (int what : new int[] {MIN, -1, 3, 4, 256, MAX}) {
            for (int image = 0; image < 4; image++) {
                int asked = image;
                keeps("image(" + image + ", " + what + ")", v -> v.image(asked, what), REFUSED);
            }
        }
    }

    private static void sameNeedsEveryValue() {
        for (int k = 0; k < 64; k++) {
            Vault v = stocked();
            v.copy(FULL, ABSENT);
            due("same as a copy", v.same(FULL, ABSENT), 1);
            v.set(ABSENT, k % 8, k / 8, 250);
            due("one differs, place number " + k, v.same(FULL, ABSENT), 0);
            due("one differs, the other way", v.same(ABSENT, FULL), 0);
        }
    }

    private static void sameNeedsTheWidth() {
        Vault v = new Vault();
        v.create(0, 8, 1, 5);
        v.create(1, 7, 1, 5);
        due("a column less", v.same(0, 1), 0);
        due("a column more", v.same(1, 0), 0);
    }

    private static void sameNeedsTheHeight() {
        Vault v = new Vault();
        v.create(0, 1, 8, 5);
        v.create(1, 1, 7, 5);
        due("a row less", v.same(0, 1), 0);
        due("a row more", v.same(1, 0), 0);
        v.create(1, 8, 1, 5);
        due("as many places in another way", v.same(0, 1), 0);
    }

    private static void sameLooksAtNoMoreThanIsThere() {
        Vault v = stocked();
        v.create(ABSENT, 8, 8, 200);
        v.shrink(ABSENT, 1, 1);
        v.set(ABSENT, 0, 0, 99);
        due("after a shrink", v.same(ABSENT, DOT), 1);
        v.crop(FULL, 7, 7);
        v.set(FULL, 0, 0, 99);
        due("after a crop", v.same(FULL, DOT), 1);
    }

    private static void sameOfOneImage() {
        keeps("same(0, 0)", v -> v.same(SMALL, SMALL), 1);
        keeps("same(1, 1)", v -> v.same(FULL, FULL), 1);
        keeps("same(2, 2)", v -> v.same(DOT, DOT), 1);
        keeps("same(0, 1)", v -> v.same(SMALL, FULL), 0);
    }

    private static void makingTests() {
        test("1: no image", ImageBoundaryTest::newObjectHasNoImage);
        test("1: a new object, beside another", ImageBoundaryTest::newObjectIsApart);
        test("2: the image is there from now on", ImageBoundaryTest::createMakesAnImageThatIsThere);
        test("2: width and height (1 .. 8), taken", ImageBoundaryTest::createTakesSides1To8);
        test("2: width (1 .. 8), beyond", ImageBoundaryTest::createRefusesOtherWidths);
        test("2: height (1 .. 8), beyond", ImageBoundaryTest::createRefusesOtherHeights);
        test("2: width and height beyond at once", ImageBoundaryTest::createRefusesTwoWrongSides);
        test("2: all values value & 255", ImageBoundaryTest::createKeepsTheValuesLowBits);
        test("3: the value at place (x, y)", ImageBoundaryTest::setReachesTheFirstAndTheLastPlace);
        test("3: becomes value & 255", ImageBoundaryTest::setKeepsTheValuesLowBits);
        test("3: answers the old value", ImageBoundaryTest::setAnswersTheOldValue);
        test("3: REFUSED if there is no such place", ImageBoundaryTest::setRefusesMissingPlaces);
        test("3: no such place though it has a number", ImageBoundaryTest::setRefusesMissingPlacesWithANumber);
        test("4: for j = 0, 1, .. count-1", ImageBoundaryTest::paintReachesTheFirstAndTheLastPlace);
        test("4: (value + j * (value >> 8)) & 255", ImageBoundaryTest::paintWrapsItsValues);
        test("4: REFUSED if count is below 1", ImageBoundaryTest::paintRefusesCountsBelow1);
        test("4: REFUSED if from is below 0", ImageBoundaryTest::paintRefusesFromBelow0);
        test("4: REFUSED if a place is not there", ImageBoundaryTest::paintRefusesPlacesThatAreNotThere);
        test("4: a sum that wraps around", ImageBoundaryTest::paintRefusesSumsThatWrap);
        test("4: two wrong arguments at once", ImageBoundaryTest::paintRefusesTwoWrongArguments);
        test("5: the value at place (x, y)", ImageBoundaryTest::getReachesEveryPlace);
        test("5: REFUSED if there is no such place", ImageBoundaryTest::getRefusesMissingPlaces);
        test("5: no such place though it has a number", ImageBoundaryTest::getRefusesMissingPlacesWithANumber);
    }

    private static void changingTests() {
        test("6: to becomes what from is", ImageBoundaryTest::copyTakesEverySize);
        test("6: to is from", ImageBoundaryTest::copyToItselfChangesNothing);
        test("6: to is apart from from", ImageBoundaryTest::copyIsApartFromItsSource);
        test("7: quarters & 3", ImageBoundaryTest::turnCountsQuartersByTheirLowBits);
        test("7: 8x8 and 1x1", ImageBoundaryTest::turnTakesTheGreatestAndTheSmallest);
        test("7: width and height exchanged, 8x1", ImageBoundaryTest::turnTakesSingleRowsAndColumns);
        test("8: what was at (width - 1 - x, y)", ImageBoundaryTest::mirrorTakesEveryWidth);
        test("8: the image, and no other", ImageBoundaryTest::mirrorLeavesOthers);
        test("9: its first x columns and y rows", ImageBoundaryTest::cropTakesFromNothingToAllButOne);
        test("9: REFUSED if x or y is below 0", ImageBoundaryTest::cropRefusesBelow0);
        test("9: REFUSED if no column would be left", ImageBoundaryTest::cropRefusesToLeaveNoColumn);
        test("9: REFUSED if no row would be left", ImageBoundaryTest::cropRefusesToLeaveNoRow);
        test("9: x and y wrong at once", ImageBoundaryTest::cropRefusesTwoWrongArguments);
        test("10: 1 .. its width, 1 .. its height", ImageBoundaryTest::shrinkTakesFrom1ToItsSides);
        test("10: width beyond: REFUSED", ImageBoundaryTest::shrinkRefusesOtherWidths);
        test("10: height beyond: REFUSED", ImageBoundaryTest::shrinkRefusesOtherHeights);
        test("10: width and height beyond at once", ImageBoundaryTest::shrinkRefusesTwoWrongSides);
        test("11: (v * factor + offset) & 255", ImageBoundaryTest::levelWrapsProductsAndSums);
        test("11: every value v, 0 and 255", ImageBoundaryTest::levelTakesTheLeastAndTheGreatestValue);
        test("11: factor 1, offset 0", ImageBoundaryTest::levelLeavesAllByOneAndNothing);
    }

    private static void askingTests() {
        test("18: 1 if it is there, its width, its height", ImageBoundaryTest::imageTellsWhatIsThere);
        test("18: 0 if it isn't there, never NONE", ImageBoundaryTest::imageTells0OfWhatIsNotThere);
        test("18: other whats: REFUSED, never NONE", ImageBoundaryTest::imageRefusesOtherWhats);
        test("20: the same values", ImageBoundaryTest::sameNeedsEveryValue);
        test("20: the same width", ImageBoundaryTest::sameNeedsTheWidth);
        test("20: the same height", ImageBoundaryTest::sameNeedsTheHeight);
        test("20: values that are there, no others", ImageBoundaryTest::sameLooksAtNoMoreThanIsThere);
        test("20: an image and itself", ImageBoundaryTest::sameOfOneImage);
    }

    public static void main(String[] args) {
        makingTests();
        changingTests();
        askingTests();
        end();
    }
}
