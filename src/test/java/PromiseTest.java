/** What each promise says of ordinary inputs; the boundaries have tests of their own. */
public final class PromiseTest extends Tests {
    private static void newObject() {
        Vault v = new Vault();
        for (int n = 0; n < 4; n++) {
            due("image " + n, v.picture(n), "absent");
            due("file " + n, v.facts(n), "0 0 0 0");
        }
    }

    private static void create() {
        Vault v = new Vault();
        due("create(0, 3, 2, 7)", v.create(0, 3, 2, 7), 6);
        due("create(1, 2, 3, 8)", v.create(1, 2, 3, 8), 6);
        due("image 0", v.picture(0), "3x2 7 7 7 7 7 7");
        due("image 1", v.picture(1), "2x3 8 8 8 8 8 8");
        due("create again", v.create(0, 2, 1, 300), 2);
        due("image 0 again", v.picture(0), "2x1 44 44");
    }

    private static void set() {
        Vault v = counted(3, 2);
        due("set(0, 2, 1, 300)", v.set(0, 2, 1, 300), 6);
        due("set(0, 0, 1, -1)", v.set(0, 0, 1, -1), 4);
        due("set(0, 0, 1, 8)", v.set(0, 0, 1, 8), 255);
        due("image 0", v.picture(0), "3x2 1 2 3 8 5 44");
    }

    private static void paint() {
        Vault v = new Vault();
        v.create(0, 3, 2, 9);
        due("paint(0, 1, 4, 5)", v.paint(0, 1, 4, 5), 4);
        due("image 0", v.picture(0), "3x2 9 5 5 5 5 9");
        due("paint(0, 0, 6, 3 * 256 + 250)", v.paint(0, 0, 6, 3 * 256 + 250), 6);
        due("image 0", v.picture(0), "3x2 250 253 0 3 6 9");
        due("paint(0, 2, 3, -1)", v.paint(0, 2, 3, -1), 3);
        due("image 0", v.picture(0), "3x2 250 253 255 254 253 9");
    }

    private static void get() {
        Vault v = counted(3, 2);
        due("get(0, 0, 0)", v.get(0, 0, 0), 1);
        due("get(0, 2, 0)", v.get(0, 2, 0), 3);
        due("get(0, 0, 1)", v.get(0, 0, 1), 4);
        due("get(0, 1, 1)", v.get(0, 1, 1), 5);
    }

    private static void copy() {
        Vault v = counted(3, 2);
        due("copy(0, 1)", v.copy(0, 1), 6);
        due("image 1", v.picture(1), "3x2 1 2 3 4 5 6");
        due("image 0", v.picture(0), "3x2 1 2 3 4 5 6");
    }

    private static void turn() {
        Vault v = counted(3, 2);
        due("turn(0, 1)", v.turn(0, 1), 2);
        due("image 0", v.picture(0), "2x3 4 1 5 2 6 3");
        due("turn(0, 1)", v.turn(0, 1), 3);
        due("image 0", v.picture(0), "3x2 6 5 4 3 2 1");
        due("turn(0, 3)", v.turn(0, 3), 2);
        due("image 0", v.picture(0), "2x3 4 1 5 2 6 3");
    }

    private static void mirror() {
        Vault v = counted(3, 2);
        due("mirror(0)", v.mirror(0), 3);
        due("image 0", v.picture(0), "3x2 3 2 1 6 5 4");
        v = counted(4, 2);
        due("mirror(0)", v.mirror(0), 4);
        due("image 0", v.picture(0), "4x2 4 3 2 1 8 7 6 5");
        v = counted(2, 3);
        due("mirror(0)", v.mirror(0), 2);
        due("image 0", v.picture(0), "2x3 2 1 4 3 6 5");
    }

    private static void crop() {
        Vault v = counted(4, 3);
        due("crop(0, 1, 0)", v.crop(0, 1, 0), 9);
        due("image 0", v.picture(0), "3x3 2 3 4 6 7 8 10 11 12");
        due("crop(0, 0, 1)", v.crop(0, 0, 1), 6);
        due("image 0", v.picture(0), "3x2 6 7 8 10 11 12");
        due("crop(0, 1, 1)", v.crop(0, 1, 1), 2);
        due("image 0", v.picture(0), "2x1 11 12");
    }

    private static void shrink() {
        Vault v = counted(4, 3);
        due("shrink(0, 3, 3)", v.shrink(0, 3, 3), 9);
        due("image 0", v.picture(0), "3x3 1 2 3 5 6 7 9 10 11");
        due("shrink(0, 3, 2)", v.shrink(0, 3, 2), 6);
        due("image 0", v.picture(0), "3x2 1 2 3 5 6 7");
        due("shrink(0, 2, 1)", v.shrink(0, 2, 1), 2);
        due("image 0", v.picture(0), "2x1 1 2");
    }

    private static void level() {
        Vault v = counted(3, 2);
        due("level(0, 50, 3)", v.level(0, 50, 3), 6);
        due("image 0", v.picture(0), "3x2 53 103 153 203 253 47");
        due("level(0, -1, 255)", v.level(0, -1, 255), 6);
        due("image 0", v.picture(0), "3x2 202 152 102 52 2 208");
    }

    private static void save() {
        Vault v = counted(3, 2);
        due("save(0, 1, 2)", v.save(0, 1, 2), 6);
        due("file 1", v.facts(1), "1 2 3 2");
        due("image 0", v.picture(0), "3x2 1 2 3 4 5 6");
    }

    private static void load() {
        Vault v = counted(3, 2);
        v.save(0, 1, 2);
        v.level(0, 0, 0);
        due("load(1, 2)", v.load(1, 2), 6);
        due("image 2", v.picture(2), "3x2 1 2 3 4 5 6");
        due("image 0", v.picture(0), "3x2 0 0 0 0 0 0");
        due("file 1", v.facts(1), "1 2 3 2");
        due("load(1, 0)", v.load(1, 0), 6);
        due("image 0", v.picture(0), "3x2 1 2 3 4 5 6");
    }

    private static void convert() {
        Vault v = counted(3, 2);
        v.save(0, 1, 2);
        due("convert(1, 3, 0)", v.convert(1, 3, 0), 6);
        due("file 1", v.facts(1), "1 2 3 2");
        due("file 3", v.facts(3), "1 0 3 2");
        v.load(3, 2);
        due("what file 3 holds", v.picture(2), "3x2 1 2 3 4 5 6");
    }

    private static void damage() {
        Vault v = counted(3, 2);
        v.save(0, 1, 2);
        due("damage(1, 7)", v.damage(1, 7), 1);
        due("file 1", v.facts(1), "2 0 0 0");
        due("load(1, 2)", v.load(1, 2), BAD);
    }

    private static void cut() {
        Vault v = counted(3, 2);
        v.save(0, 1, 2);
        due("cut(1, 3)", v.cut(1, 3), 1);
        due("file 1", v.facts(1), "2 0 0 0");
        due("load(1, 2)", v.load(1, 2), BAD);
    }

    private static void duplicate() {
        Vault v = counted(3, 2);
        v.save(0, 1, 2);
        due("duplicate(1, 3)", v.duplicate(1, 3), 1);
        due("file 3", v.facts(3), "1 2 3 2");
        v.load(3, 2);
        due("what file 3 holds", v.picture(2), "3x2 1 2 3 4 5 6");
        v.damage(1, 0);
        due("duplicate(1, 0)", v.duplicate(1, 0), 1);
        due("file 0", v.facts(0), "2 0 0 0");
    }

    private static void image() {
        Vault v = counted(3, 2);
        due("image(0, 0)", v.image(0, 0), 1);
        due("image(0, 1)", v.image(0, 1), 3);
        due("image(0, 2)", v.image(0, 2), 2);
        due("image(1, 0)", v.image(1, 0), 0);
    }

    private static void file() {
        Vault v = counted(3, 2);
        v.save(0, 1, 2);
        due("file(1, 0)", v.file(1, 0), 1);
        due("file(1, 1)", v.file(1, 1), 2);
        due("file(1, 2)", v.file(1, 2), 3);
        due("file(1, 3)", v.file(1, 3), 2);
        due("file(2, 0)", v.file(2, 0), 0);
        v.cut(1, 1);
        due("file(1, 0)", v.file(1, 0), 2);
    }

    private static void same() {
        Vault v = counted(3, 2);
        v.copy(0, 1);
        due("same(0, 1)", v.same(0, 1), 1);
        v.set(1, 1, 1, 99);
        due("same(0, 1)", v.same(0, 1), 0);
        v.set(0, 1, 1, 99);
        due("same(1, 0)", v.same(1, 0), 1);
    }

    public static void main(String[] args) {
        test("1, new object", PromiseTest::newObject);
        test("2, create", PromiseTest::create);
        test("3, set", PromiseTest::set);
        test("4, paint", PromiseTest::paint);
        test("5, get", PromiseTest::get);
        test("6, copy", PromiseTest::copy);
        test("7, turn", PromiseTest::turn);
        test("8, mirror", PromiseTest::mirror);
        test("9, crop", PromiseTest::crop);
        test("10, shrink", PromiseTest::shrink);
        test("11, level", PromiseTest::level);
        test("12, save", PromiseTest::save);
        test("13, load", PromiseTest::load);
        test("14, convert", PromiseTest::convert);
        test("15, damage", PromiseTest::damage);
        test("16, cut", PromiseTest::cut);
        test("17, duplicate", PromiseTest::duplicate);
        test("18, image", PromiseTest::image);
        test("19, file", PromiseTest::file);
        test("20, same", PromiseTest::same);
        end();
    }
}
