import java.util.Random;

/** Promise 4. */
public final class PixelTest {
    public static void main(String[] args) {
        everyPixel();
        noneSuch();
        largestColour();
        Due.end();
    }

    /** "The colour of a pixel", before a file and behind it. */
    private static void everyPixel() {
        Pair pair = new Pair("noise", 9, 9);
        pair.noise(new Random(4), 0, 256);
        pair.pixels();
        pair.plain.put();
        pair.real.put();
        pair.pixels();
    }

    /** "NONE if there is none such": on each side, near and far, in pictures without a 0 in them. */
    private static void noneSuch() {
        int[][] sides = {{1, 1}, {1, 48}, {48, 1}, {9, 6}, {48, 48}};
        for (int[] side : sides) {
            Careful packer = new Careful(side[0], side[1]);
            for (int y = 0; y < side[1]; y++) {
                packer.fill(y, 0, 47, -1);
            }
            int[] wrongX = {Integer.MIN_VALUE, -48, -1, side[0], side[0] + 1, 49, Integer.MAX_VALUE};
            int[] wrongY = {Integer.MIN_VALUE, -48, -1, side[1], side[1] + 1, 49, Integer.MAX_VALUE};
            for (int x : wrongX) {
                for (int y = 0; y < side[1]; y++) {
                    Due.is("pixel(" + x + ", " + y + ")", packer.pixel(x, y), PicturePacker.NONE);
                }
                for (int y : wrongY) {
                    Due.is("pixel(" + x + ", " + y + ")", packer.pixel(x, y), PicturePacker.NONE);
                }
            }
            for (int y : wrongY) {
                for (int x = 0; x < side[0]; x++) {
                    Due.is("pixel(" + x + ", " + y + ")", packer.pixel(x, y), PicturePacker.NONE);
                }
            }
            Due.is("the first pixel", packer.pixel(0, 0), 0xFFFFFF);
            Due.is("the last pixel", packer.pixel(side[0] - 1, side[1] - 1), 0xFFFFFF);
        }
    }

    /** White is not NONE, though set was given -1. */
    private static void largestColour() {
        Careful white = new Careful(1, 1);
        white.set(0, 0, PicturePacker.NONE);
        Due.is("white", white.pixel(0, 0), 16777215);
    }
}
