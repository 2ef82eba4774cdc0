/** Promise 3. */
public final class FillTest {
    private static final int[] EDGES = {Integer.MIN_VALUE, Integer.MIN_VALUE + 1, -7, -1, 0, 1, 3, 5, 6, 7, 48,
        Integer.MAX_VALUE - 1, Integer.MAX_VALUE};

    public static void main(String[] args) {
        written();
        everySpan();
        colours();
        Due.end();
    }

    private static void written() {
        PicturePacker packer = new PicturePacker(7, 4);
        Due.is("the whole row", packer.fill(0, 0, 6, 1), 7);
        Due.is("one pixel", packer.fill(1, 3, 3, 2), 1);
        Due.is("both ends beyond", packer.fill(2, Integer.MIN_VALUE, Integer.MAX_VALUE, 3), 7);
        Due.is("left end beyond", packer.fill(3, -5, 1, 4), 2);
        Due.is("right end beyond", packer.fill(3, 5, 99, 5), 2);
        Due.is("all beyond the left", packer.fill(0, -5, -1, 6), 0);
        Due.is("all beyond the right", packer.fill(0, 7, 9, 6), 0);
        Due.is("backwards", packer.fill(0, 4, 2, 6), 0);
        Due.is("row above", packer.fill(-1, 0, 6, 6), 0);
        Due.is("row below", packer.fill(4, 0, 6, 6), 0);
        int[][] due = {{1, 1, 1, 1, 1, 1, 1}, {0, 0, 0, 2, 0, 0, 0}, {3, 3, 3, 3, 3, 3, 3}, {4, 4, 0, 0, 0, 5, 5}};
        for (int y = 0; y < 4; y++) {
            for (int x = 0; x < 7; x++) {
                Due.is("filled pixel " + x + ", " + y, packer.pixel(x, y), due[y][x]);
            }
        }
    }

    private static void everySpan() {
        int colour = 0;
        for (int y : EDGES) {
            Pair pair = new Pair("every span", 7, 6);
            for (int from : EDGES) {
                for (int to : EDGES) {
                    colour++;
                    pair.fill(y, from, to, colour);
                }
                pair.pixels();
            }
        }
    }

    private static void colours() {
        Pair pair = new Pair("colours", 7, 6);
        pair.fill(0, 0, 6, -1);
        pair.fill(1, 0, 6, 0x1000000);
        pair.fill(2, 0, 6, Integer.MIN_VALUE + 5);
        pair.fill(3, 0, 6, Integer.MAX_VALUE);
        pair.pixels();
    }
}
