import java.util.Random;

/** Promise 7. */
public final class FilterTest {
    private static final int[] OUTSIDE = {Integer.MIN_VALUE, -1, 5, 6, 48, Integer.MAX_VALUE};

    public static void main(String[] args) {
        written();
        beforeTheFirstFile();
        noneSuch();
        ties();
        latestFile();
        slopes();
        for (int f = 0; f <= 4; f++) {
            Due.is("met filter " + f, PlainPacker.FILTERS_MET[f], true);
        }
        Due.end();
    }

    /** "The filter of row y in the latest file". */
    private static void written() {
        Careful packer = new Careful(4, 5);
        packer.fill(0, 0, 3, 0x101010);
        packer.fill(1, 0, 1, 0x101010);
        packer.fill(1, 2, 3, 0xF0F0F0);
        packer.set(2, 2, 0x808080);
        packer.set(3, 2, -1);
        packer.put();
        int[] due = {1, 4, 3, 0, 0};
        for (int y = 0; y < 5; y++) {
            Due.is("filter(" + y + ")", packer.filter(y), due[y]);
        }
        for (int y : OUTSIDE) {
            Due.is("filter(" + y + ")", packer.filter(y), -1);
        }
    }

    /** "NONE if there is none": before the first put no row has a filter, with pixels set or not. */
    private static void beforeTheFirstFile() {
        Careful packer = new Careful(48, 48);
        for (int paint = 0; paint < 2; paint++) {
            for (int y = -1; y <= 48; y++) {
                Due.is("filter(" + y + ") before a file", packer.filter(y), -1);
            }
            for (int y : OUTSIDE) {
                Due.is("filter(" + y + ") before a file", packer.filter(y), -1);
            }
            packer.fill(0, 0, 47, -1);
        }
    }

    /** "NONE if there is none": rows that are not there, near and far, in the lowest and highest pictures. */
    private static void noneSuch() {
        for (int height : new int[] {1, 2, 47, 48}) {
            Careful packer = new Careful(3, height);
            for (int file = 1; file <= 2; file++) {
                packer.put();
                for (int y : new int[] {Integer.MIN_VALUE, -48, -1, height, height + 1, 49, Integer.MAX_VALUE}) {
                    Due.is("filter(" + y + ") of " + height + " rows", packer.filter(y), -1);
                }
                Due.is("filter(0) of " + height + " rows", packer.filter(0), 0);
                Due.is("the last filter of " + height + " rows", packer.filter(height - 1), 0);
            }
        }
    }

    /** All filters cost the same on black; 2 and 4 the same below an equal row; 128 counts 128. */
    private static void ties() {
        Careful packer = new Careful(2, 3);
        packer.put();
        Due.is("black, row 0", packer.filter(0), 0);
        Due.is("black, row 1", packer.filter(1), 0);
        packer.set(0, 0, 0x102030);
        packer.set(1, 0, 0x605040);
        packer.set(0, 1, 0x102030);
        packer.set(1, 1, 0x605040);
        packer.put();
        Due.is("below an equal row", packer.filter(1), 2);
        Careful half = new Careful(1, 1);
        half.set(0, 0, 0x808080);
        half.put();
        Due.is("128 alone", half.filter(0), 0);
    }

    /** "in the latest file": what is painted behind a put counts from the next one on. */
    private static void latestFile() {
        Pair pair = new Pair("latest", 5, 5);
        for (int y = -1; y <= 5; y++) {
            Due.is("filter(" + y + ") before a file", pair.real.filter(y), -1);
        }
        pair.put();
        pair.fill(2, 0, 4, 0x404040);
        for (int y = -1; y <= 5; y++) {
            pair.filter(y);
        }
        Due.is("row 2 before the next file", pair.real.filter(2), 0);
        pair.put();
        Due.is("row 2 in the next file", pair.real.filter(2), 1);
    }

    private static void slopes() {
        Random random = new Random(9);
        for (int i = 0; i < 60; i++) {
            Pair pair = new Pair("slope", 1 + random.nextInt(20), 1 + random.nextInt(20));
            int across = random.nextInt(40);
            int down = random.nextInt(40);
            int rough = 1 + random.nextInt(12);
            for (int y = 0; y < pair.plain.height; y++) {
                for (int x = 0; x < pair.plain.width; x++) {
                    int part = x * across + y * down + random.nextInt(rough) & 255;
                    pair.set(x, y, part * 0x010101 + random.nextInt(rough));
                }
            }
            pair.put();
        }
    }
}
