/** Promise 1, and the constant. */
public final class NewObjectTest {
    private static final int[] SIDES = {Integer.MIN_VALUE, -1, 0, 1, 2, 47, 48, 49, 50, Integer.MAX_VALUE};
    private static final int[] SIDES_DUE = {1, 1, 1, 1, 2, 47, 48, 48, 48, 48};

    public static void main(String[] args) {
        Due.is("NONE", PicturePacker.NONE, -1);
        for (int i = 0; i < SIDES.length; i++) {
            for (int j = 0; j < SIDES.length; j++) {
                isNew(SIDES[i], SIDES[j], SIDES_DUE[i], SIDES_DUE[j]);
            }
        }
        widthAndHeightInTheFile();
        objectsAreApart();
        Due.end();
    }

    /** "1 .. 48 each way (what is less or more is the nearest of these)", in the file too. */
    private static void widthAndHeightInTheFile() {
        for (int i = 0; i < SIDES.length; i++) {
            for (int j = 0; j < SIDES.length; j++) {
                Careful packer = new Careful(SIDES[i], SIDES[j]);
                packer.put();
                String name = "file of (" + SIDES[i] + ", " + SIDES[j] + ") ";
                Due.is(name + "width", Reader.number(packer, 16), SIDES_DUE[i]);
                Due.is(name + "height", Reader.number(packer, 20), SIDES_DUE[j]);
                Due.is(name + "rows' bytes", Reader.rows(packer).length, (3 * SIDES_DUE[i] + 1) * SIDES_DUE[j]);
            }
        }
    }

    /** "1 .. 48 each way (what is less or more is the nearest of these), all of colour 0". */
    private static void isNew(int width, int height, int widthDue, int heightDue) {
        Careful packer = new Careful(width, height);
        String name = "new (" + width + ", " + height + ") ";
        Due.is(name + "count(4)", packer.count(4), widthDue);
        Due.is(name + "count(5)", packer.count(5), heightDue);
        for (int y = -1; y <= heightDue; y++) {
            for (int x = -1; x <= widthDue; x++) {
                boolean there = x >= 0 && x < widthDue && y >= 0 && y < heightDue;
                Due.is(name + "pixel(" + x + ", " + y + ")", packer.pixel(x, y), there ? 0 : -1);
            }
        }
        for (int what = 0; what < 4; what++) {
            Due.is(name + "count(" + what + ")", packer.count(what), 0);
        }
        Due.is(name + "byteAt(0)", packer.byteAt(0), -1);
        Due.is(name + "filter(0)", packer.filter(0), -1);
    }

    private static void objectsAreApart() {
        Careful one = new Careful(2, 2);
        Careful other = new Careful(2, 2);
        one.set(0, 0, 5);
        one.put();
        Due.is("other pixel(0, 0)", other.pixel(0, 0), 0);
        Due.is("other count(0)", other.count(0), 0);
        Due.is("other byteAt(0)", other.byteAt(0), -1);
        Due.is("other filter(0)", other.filter(0), -1);
    }
}
