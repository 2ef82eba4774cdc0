/** Promise 3. */
public final class FillTest {
    private static final int[] EDGES = {Integer.MIN_VALUE, Integer.MIN_VALUE + 1, -7, -1, 0, 1, 3, 5, 6, 7, 48,
        Integer.MAX_VALUE - 1, Integer.MAX_VALUE};

    public static void main(String[] args) {
        written();
        farthestEnds();
        refusedRows();
        everySpan();
        colours();
        Due.end();
    }

    /** "how many; those that are not there are left out". */
    private static void written() {
        Careful packer = new Careful(7, 4);
        Due.is("the whole row", packer.fill(0, 0, 6, 1), 7);
        Due.is("one pixel", packer.fill(1, 3, 3, 2), 1);
        Due.is("both ends beyond", packer.fill(2, Integer.MIN_VALUE, Integer.MAX_VALUE, 3), 7);
        Due.is("left end beyond", packer.fill(3, -5, 1, 4), 2);
        Due.is("right end beyond", packer.fill(3, 5, 99, 5), 2);
        Due.is("all beyond the left", packer.fill(0, -5, -1, 6), 0);
        Due.is("all beyond the right", packer.fill(0, 7, 9, 6), 0);
        Due.is("backwards", packer.fill(0, 4, 2, 6), 0);
        Due.is("row above", packer.fill(-1, 0, 6, 6), 0);
        Due.is("row below", packer.fill(4, 0, 6, 6), 0);
        int[][] due = {{1, 1, 1, 1, 1, 1, 1}, {0, 0, 0, 2, 0, 0, 0}, {3, 3, 3, 3, 3, 3, 3}, {4, 4, 0, 0, 0, 5, 5}};
        for (int y = 0; y < 4; y++) {
            for (int x = 0; x < 7; x++) {
                Due.is("filled pixel " + x + ", " + y, packer.pixel(x, y), due[y][x]);
            }
        }
    }

    /** The same with the smallest and the largest ints as ends, in rows of one and of 48 pixels. */
    private static void farthestEnds() {
        int min = Integer.MIN_VALUE;
        int max = Integer.MAX_VALUE;
        for (int width : new int[] {1, 48}) {
            Careful packer = new Careful(width, 48);
            Due.is("from all to all", packer.fill(47, min, max, 1), width);
            Due.is("from the first on", packer.fill(0, 0, max, 2), width);
            Due.is("up to the last", packer.fill(1, min, width - 1, 3), width);
            Due.is("the first alone", packer.fill(2, min, 0, 4), 1);
            Due.is("the last alone", packer.fill(3, width - 1, max, 5), 1);
            Due.is("all before", packer.fill(4, min, -1, 6), 0);
            Due.is("all behind", packer.fill(4, width, max, 6), 0);
            Due.is("the smallest alone", packer.fill(4, min, min, 6), 0);
            Due.is("the largest alone", packer.fill(4, max, max, 6), 0);
            Due.is("from behind to before", packer.fill(4, max, min, 6), 0);
            int[] first = {2, 3, 4, width == 1 ? 5 : 0, 0};
            int[] last = {2, 3, width == 1 ? 4 : 0, 5, 0};
            for (int y = 0; y < 5; y++) {
                Due.is("the first of row " + y, packer.pixel(0, y), first[y]);
                Due.is("the last of row " + y, packer.pixel(width - 1, y), last[y]);
            }
            Due.is("the last row", packer.pixel(0, 47) + packer.pixel(width - 1, 47), 2);
        }
    }

    /** The same where the row is not there: none is filled, and nothing has changed. */
    private static void refusedRows() {
        for (int height : new int[] {1, 48}) {
            Pair pair = new Pair("no such row", 48, height);
            for (int y : new int[] {Integer.MIN_VALUE, -48, -1, height, height + 1, Integer.MAX_VALUE}) {
                Due.is("fill(" + y + ", all)", pair.real.fill(y, Integer.MIN_VALUE, Integer.MAX_VALUE, -1), 0);
                Due.is("fill(" + y + ", 0, 47)", pair.real.fill(y, 0, 47, -1), 0);
            }
            pair.pixels();
            pair.put();
        }
    }

    private static void everySpan() {
        int colour = 0;
        for (int y : EDGES) {
            Pair pair = new Pair("every span", 7, 6);
            for (int from : EDGES) {
                for (int to : EDGES) {
                    colour++;
                    pair.fill(y, from, to, colour);
                }
                pair.pixels();
            }
        }
    }

    /** A colour is that of set: its lowest 24 bits. */
    private static void colours() {
        Pair pair = new Pair("colours", 7, 6);
        pair.fill(0, 0, 6, -1);
        pair.fill(1, 0, 6, 0x1000000);
        pair.fill(2, 0, 6, Integer.MIN_VALUE + 5);
        pair.fill(3, 0, 6, Integer.MAX_VALUE);
        pair.fill(4, 0, 6, Integer.MIN_VALUE);
        pair.pixels();
        Due.is("the largest colour", pair.real.pixel(6, 3), 0xFFFFFF);
        Due.is("a small colour", pair.real.pixel(6, 2), 5);
        Due.is("the smallest colour", pair.real.pixel(6, 4), 0);
    }
}
