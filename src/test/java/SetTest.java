/** Promise 2. */
public final class SetTest {
    private static final int[] OUTSIDE = {Integer.MIN_VALUE, -48, -1, 48, 49, 1000, Integer.MAX_VALUE};

    public static void main(String[] args) {
        colours();
        corners();
        wrongPlaces();
        onlyThatPixel();
        Due.end();
    }

    private static void colours() {
        int[] given = {0, 1, 255, 256, 0x010203, 0xFFFFFF, 0x1000000, 0x7F123456, -1, Integer.MIN_VALUE,
            Integer.MIN_VALUE + 7, Integer.MAX_VALUE, 0xFF808080};
        int[] kept = {0, 1, 255, 256, 0x010203, 0xFFFFFF, 0, 0x123456, 0xFFFFFF, 0, 7, 0xFFFFFF, 0x808080};
        PicturePacker packer = new PicturePacker(3, 3);
        for (int i = 0; i < given.length; i++) {
            Due.is("set(1, 2, " + given[i] + ")", packer.set(1, 2, given[i]), true);
            Due.is("pixel behind set " + given[i], packer.pixel(1, 2), kept[i]);
        }
    }

    private static void corners() {
        Pair pair = new Pair("corners", 48, 48);
        pair.set(0, 0, 1);
        pair.set(47, 0, 2);
        pair.set(0, 47, 3);
        pair.set(47, 47, 4);
        pair.pixels();
    }

    private static void wrongPlaces() {
        Pair pair = new Pair("wrong places", 48, 48);
        for (int out : OUTSIDE) {
            for (int in = 0; in < 48; in++) {
                Due.is("set(" + out + ", " + in + ")", pair.real.set(out, in, 9), false);
                Due.is("set(" + in + ", " + out + ")", pair.real.set(in, out, 9), false);
            }
            Due.is("set(" + out + " twice)", pair.real.set(out, out, 9), false);
        }
        pair.pixels();
    }

    private static void onlyThatPixel() {
        for (int y = 0; y < 4; y++) {
            for (int x = 0; x < 5; x++) {
                Pair pair = new Pair("only that pixel", 5, 4);
                pair.set(x, y, 0xABCDEF);
                pair.pixels();
            }
        }
        Pair narrow = new Pair("not square", 3, 7);
        narrow.set(5, 1, 8);
        narrow.set(1, 5, 8);
        narrow.pixels();
    }
}
