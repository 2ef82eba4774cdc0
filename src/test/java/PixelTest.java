import java.util.Random;

/** Promise 4. */
public final class PixelTest {
    private static final int[] OUTSIDE = {Integer.MIN_VALUE, -5, -1, 9, 48, Integer.MAX_VALUE};

    public static void main(String[] args) {
        Pair pair = new Pair("noise", 9, 9);
        pair.noise(new Random(4), 0, 256);
        pair.pixels();
        pair.plain.put();
        pair.real.put();
        pair.pixels();
        for (int out : OUTSIDE) {
            for (int in = 0; in < 9; in++) {
                Due.is("pixel(" + out + ", " + in + ")", pair.real.pixel(out, in), -1);
                Due.is("pixel(" + in + ", " + out + ")", pair.real.pixel(in, out), -1);
            }
        }
        PicturePacker white = new PicturePacker(1, 1);
        white.set(0, 0, -1);
        Due.is("white", white.pixel(0, 0), 16777215);
        Due.end();
    }
}
