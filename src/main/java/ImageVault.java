/** A store of small grey images and of files that they are written to in four formats. */
public final class ImageVault {
    public static final int REFUSED = -1, NONE = -2, BAD = -3;

    private static final int FINE = 0;
    // There are as many images as files as formats, so one check serves all three.
    private static final int NUMBERS = 4;
    private static final int MAX_SIDE = 8;
    private static final int MAX_PLACES = MAX_SIDE * MAX_SIDE;
    private static final int VALUE_MASK = 255;

    // Images and files hold pictures alike, so both live in slots and one copy serves
    // save, load, copy, convert and duplicate: image i is slot i, file f is slot FIRST_FILE + f.
    private static final int FIRST_FILE = NUMBERS;
    private static final int SLOTS = NUMBERS + NUMBERS;
    private static final int ALL_PLACES = SLOTS * MAX_PLACES;

    // A width of 0 tells that the slot's image or file is not there.
    private final int[] widths = new int[SLOTS];
    private final int[] heights = new int[SLOTS];
    // Place number k of a slot is at slot * MAX_PLACES + k.
    private final int[] values = new int[ALL_PLACES];
    private final int[] formats = new int[NUMBERS];
    private final boolean[] damaged = new boolean[NUMBERS];
    private final int[] unturned = new int[MAX_PLACES];

    public ImageVault() {
    }

    public int create(int image, int width, int height, int value) {
        if (isUnknown(image) || isNoSide(width, MAX_SIDE) || isNoSide(height, MAX_SIDE)) {
            return REFUSED;
        }
        widths[image] = width;
        heights[image] = height;
        int base = image * MAX_PLACES;
        int count = width * height;
        for (int k = 0; k < count; k++) {
            values[base + k] = value & VALUE_MASK;
        }
        return count;
    }

    public int set(int image, int x, int y, int value) {
        int fault = imageFault(image);
        if (fault != FINE) {
            return fault;
        }
        if (isNoPlace(image, x, y)) {
            return REFUSED;
        }
        int index = indexOf(image, x, y);
        int old = values[index];
        values[index] = value & VALUE_MASK;
        return old;
    }

    public int paint(int image, int from, int count, int value) {
        int fault = imageFault(image);
        if (fault != FINE) {
            return fault;
        }
        int places = placesOf(image);
        // Compared by a difference, since from + count may overflow.
        if (count < 1 || count > places || from < 0 || from > places - count) {
            return REFUSED;
        }
        int start = image * MAX_PLACES + from;
        int step = value >> 8;
        for (int j = 0; j < count; j++) {
            values[start + j] = (value + j * step) & VALUE_MASK;
        }
        return count;
    }

    public int get(int image, int x, int y) {
        int fault = imageFault(image);
        if (fault != FINE) {
            return fault;
        }
        if (isNoPlace(image, x, y)) {
            return REFUSED;
        }
        int index = indexOf(image, x, y);
        return values[index];
    }

    public int copy(int from, int to) {
        if (isUnknown(from) || isUnknown(to)) {
            return REFUSED;
        }
        if (isAbsent(from)) {
            return NONE;
        }
        copySlot(from, to);
        return placesOf(to);
    }

    public int turn(int image, int quarters) {
        int fault = imageFault(image);
        if (fault != FINE) {
            return fault;
        }
        int turns = quarters & 3;
        for (int done = 0; done < turns; done++) {
            turnOnce(image);
        }
        return widths[image];
    }

    public int mirror(int image) {
        int fault = imageFault(image);
        if (fault != FINE) {
            return fault;
        }
        int width = widths[image];
        int height = heights[image];
        for (int y = 0; y < height; y++) {
            mirrorRow(image * MAX_PLACES + y * width, width);
        }
        return width;
    }

    public int crop(int image, int x, int y) {
        int fault = imageFault(image);
        if (fault != FINE) {
            return fault;
        }
        // A place at (x, y) is just what it takes for a column and a row to be left.
        if (isNoPlace(image, x, y)) {
            return REFUSED;
        }
        keepPart(image, x, y, widths[image] - x, heights[image] - y);
        return placesOf(image);
    }

    public int shrink(int image, int width, int height) {
        int fault = imageFault(image);
        if (fault != FINE) {
            return fault;
        }
        if (isNoSide(width, widths[image]) || isNoSide(height, heights[image])) {
            return REFUSED;
        }
        keepPart(image, 0, 0, width, height);
        return placesOf(image);
    }

    public int level(int image, int factor, int offset) {
        int fault = imageFault(image);
        if (fault != FINE) {
            return fault;
        }
        int base = image * MAX_PLACES;
        int count = placesOf(image);
        for (int k = 0; k < count; k++) {
            values[base + k] = (values[base + k] * factor + offset) & VALUE_MASK;
        }
        return count;
    }

    public int save(int image, int file, int format) {
        if (isUnknown(image) || isUnknown(file) || isUnknown(format)) {
            return REFUSED;
        }
        if (isAbsent(image)) {
            return NONE;
        }
        return writeFile(image, file, format);
    }

    public int load(int file, int image) {
        if (isUnknown(file) || isUnknown(image)) {
            return REFUSED;
        }
        int fault = fileFault(file);
        if (fault != FINE) {
            return fault;
        }
        copySlot(FIRST_FILE + file, image);
        return placesOf(image);
    }

    public int convert(int from, int to, int format) {
        if (isUnknown(from) || isUnknown(to) || isUnknown(format)) {
            return REFUSED;
        }
        int fault = fileFault(from);
        if (fault != FINE) {
            return fault;
        }
        return writeFile(FIRST_FILE + from, to, format);
    }

    public int damage(int file, int spot) {
        return spoil(file);
    }

    public int cut(int file, int bytes) {
        return spoil(file);
    }

    public int duplicate(int from, int to) {
        if (isUnknown(from) || isUnknown(to)) {
            return REFUSED;
        }
        if (isAbsent(FIRST_FILE + from)) {
            return NONE;
        }
        copySlot(FIRST_FILE + from, FIRST_FILE + to);
        formats[to] = formats[from];
        damaged[to] = damaged[from];
        return 1;
    }

    public int image(int image, int what) {
        if (isUnknown(image)) {
            return REFUSED;
        }
        switch (what) {
            case 0:
                return isAbsent(image) ? 0 : 1;
            case 1:
                return widths[image];
            case 2:
                return heights[image];
            default:
                return REFUSED;
        }
    }

    public int file(int file, int what) {
        if (isUnknown(file) || what < 0 || what > 3) {
            return REFUSED;
        }
        int fault = fileFault(file);
        if (what == 0) {
            return fault == NONE ? 0 : fault == BAD ? 2 : 1;
        }
        if (fault != FINE) {
            return 0;
        }
        if (what == 1) {
            return formats[file];
        }
        return what == 2 ? widths[FIRST_FILE + file] : heights[FIRST_FILE + file];
    }

    public int same(int a, int b) {
        if (isUnknown(a) || isUnknown(b)) {
            return REFUSED;
        }
        if (isAbsent(a) || isAbsent(b)) {
            return NONE;
        }
        if (widths[a] != widths[b] || heights[a] != heights[b]) {
            return 0;
        }
        int baseA = a * MAX_PLACES;
        int baseB = b * MAX_PLACES;
        int count = placesOf(a);
        for (int k = 0; k < count; k++) {
            if (values[baseA + k] != values[baseB + k]) {
                return 0;
            }
        }
        return 1;
    }

    private static boolean isUnknown(int number) {
        return number < 0 || number >= NUMBERS;
    }

    private static boolean isNoSide(int length, int longest) {
        return length < 1 || length > longest;
    }

    private boolean isAbsent(int slot) {
        return widths[slot] == 0;
    }

    private boolean isNoPlace(int slot, int x, int y) {
        return x < 0 || x >= widths[slot] || y < 0 || y >= heights[slot];
    }

    private int indexOf(int slot, int x, int y) {
        return slot * MAX_PLACES + y * widths[slot] + x;
    }

    private int placesOf(int slot) {
        return widths[slot] * heights[slot];
    }

    private int imageFault(int image) {
        if (isUnknown(image)) {
            return REFUSED;
        }
        return isAbsent(image) ? NONE : FINE;
    }

    private int fileFault(int file) {
        if (isUnknown(file)) {
            return REFUSED;
        }
        if (isAbsent(FIRST_FILE + file)) {
            return NONE;
        }
        return damaged[file] ? BAD : FINE;
    }

    private void copySlot(int from, int to) {
        widths[to] = widths[from];
        heights[to] = heights[from];
        int source = from * MAX_PLACES;
        int target = to * MAX_PLACES;
        int count = placesOf(from);
        for (int k = 0; k < count; k++) {
            values[target + k] = values[source + k];
        }
    }

    private int writeFile(int slot, int file, int format) {
        copySlot(slot, FIRST_FILE + file);
        formats[file] = format;
        damaged[file] = false;
        return placesOf(slot);
    }

    // Which bit changes or how much is lost can't be seen in any answer, so the fact is enough.
    private int spoil(int file) {
        int fault = fileFault(file);
        if (fault != FINE) {
            return fault;
        }
        damaged[file] = true;
        return 1;
    }

    private void turnOnce(int image) {
        int base = image * MAX_PLACES;
        int count = placesOf(image);
        for (int k = 0; k < count; k++) {
            unturned[k] = values[base + k];
        }
        int width = widths[image];
        int height = heights[image];
        for (int y = 0; y < width; y++) {
            for (int x = 0; x < height; x++) {
                values[base + y * height + x] = unturned[(height - 1 - x) * width + y];
            }
        }
        widths[image] = height;
        heights[image] = width;
    }

    private void mirrorRow(int start, int width) {
        int half = width / 2;
        for (int x = 0; x < half; x++) {
            int left = start + x;
            int right = start + width - 1 - x;
            int kept = values[left];
            values[left] = values[right];
            values[right] = kept;
        }
    }

    // Needs no second array: no value moves to a later place, so none is overwritten unread.
    private void keepPart(int image, int left, int top, int width, int height) {
        int base = image * MAX_PLACES;
        int oldWidth = widths[image];
        for (int y = 0; y < height; y++) {
            int source = base + (top + y) * oldWidth + left;
            int target = base + y * width;
            for (int x = 0; x < width; x++) {
                values[target + x] = values[source + x];
            }
        }
        widths[image] = width;
        heights[image] = height;
    }
}
