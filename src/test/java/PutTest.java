import java.util.Random;

/** Promise 5: the files are as the plain packer's, and a reader gets the picture back. */
public final class PutTest {
    public static void main(String[] args) {
        evenPictures();
        noises();
        runsOfEveryLength();
        farRuns();
        latestPictureCounts();
        for (int n = 3; n <= 258; n++) {
            Due.is("met a run of " + n, PlainPacker.LENGTHS_MET[n], true);
        }
        for (int k = 0; k <= 25; k++) {
            Due.is("met a distance of code " + k, PlainPacker.DISTANCE_CODES_MET[k], true);
        }
        for (int f = 0; f <= 4; f++) {
            Due.is("met filter " + f, PlainPacker.FILTERS_MET[f], true);
        }
        Due.end();
    }

    private static void evenPictures() {
        int[] sides = {1, 2, 3, 17, 47, 48};
        int[] colours = {0, 1, 0x808080, 0xFFFFFF, 0x102030};
        for (int width : sides) {
            for (int height : sides) {
                for (int colour : colours) {
                    Pair pair = new Pair("even", width, height);
                    for (int y = 0; y < height; y++) {
                        pair.fill(y, 0, 47, colour);
                    }
                    putAndRead(pair);
                }
            }
        }
    }

    private static void noises() {
        Random random = new Random(5);
        int[] spans = {2, 3, 9, 40, 128, 200, 256};
        for (int span : spans) {
            for (int least : new int[] {0, -span / 2, 100, 143}) {
                Pair pair = new Pair("noise", 1 + random.nextInt(48), 1 + random.nextInt(48));
                pair.noise(random, least, span);
                putAndRead(pair);
            }
        }
        for (int least : new int[] {0, -20, 144}) {
            Pair pair = new Pair("largest noise", 48, 48);
            pair.noise(random, least, 112);
            putAndRead(pair);
        }
    }

    /** A lone pixel in an even picture cuts the run of zeros at each length there is. */
    private static void runsOfEveryLength() {
        for (int place = 0; place < 96; place++) {
            for (int part = 0; part < 24; part += 8) {
                Pair pair = new Pair("cut", 48, 2);
                pair.set(place % 48, place / 48, 1 << part);
                putAndRead(pair);
            }
        }
        for (int width = 28; width <= 48; width++) {
            Pair pair = new Pair("longest runs", width, 9);
            pair.set(0, 4, 0x010203);
            putAndRead(pair);
        }
    }

    /** Rows around 0 mostly take filter 0, so that a row set again far below is a far run. */
    private static void farRuns() {
        Random random = new Random(6);
        for (int back = 1; back < 48; back++) {
            Pair pair = new Pair("rows again, back " + back, 48, 48);
            pair.noise(random, -20, 41);
            for (int y = back; y < 48; y += 3) {
                for (int x = random.nextInt(10); x < 48 - random.nextInt(10); x++) {
                    pair.set(x, y, pair.plain.pixel(x, y - back));
                }
            }
            putAndRead(pair);
        }
    }

    private static void latestPictureCounts() {
        Pair pair = new Pair("again", 20, 20);
        putAndRead(pair);
        pair.noise(new Random(7), 0, 256);
        putAndRead(pair);
        putAndRead(pair);
        for (int y = 0; y < 20; y++) {
            pair.fill(y, 0, 19, 0);
        }
        putAndRead(pair);
    }

    private static void putAndRead(Pair pair) {
        pair.put();
        PicturePacker real = pair.real;
        int[] rows = Reader.rows(real);
        int width = real.count(4);
        Due.is("rows' bytes", rows.length, real.count(5) * (3 * width + 1));
        int[][] read = unfiltered(rows, width, real.count(5));
        for (int y = 0; y < real.count(5); y++) {
            for (int x = 0; x < width; x++) {
                int colour = read[y][3 * x] << 16 | read[y][3 * x + 1] << 8 | read[y][3 * x + 2];
                Due.is("read back pixel " + x + ", " + y, colour, pair.plain.pixel(x, y));
            }
        }
    }

    private static int[][] unfiltered(int[] rows, int width, int height) {
        int[][] parts = new int[height][3 * width];
        for (int y = 0; y < height; y++) {
            int start = y * (3 * width + 1);
            for (int i = 0; i < 3 * width; i++) {
                int a = i < 3 ? 0 : parts[y][i - 3];
                int b = y == 0 ? 0 : parts[y - 1][i];
                int c = i < 3 || y == 0 ? 0 : parts[y - 1][i - 3];
                int toA = Math.abs(b - c);
                int toB = Math.abs(a - c);
                int toC = Math.abs(a + b - 2 * c);
                int near = toA <= toB && toA <= toC ? a : toB <= toC ? b : c;
                int[] guesses = {0, a, b, (a + b) / 2, near};
                parts[y][i] = rows[start + 1 + i] + guesses[rows[start]] & 255;
            }
        }
        return parts;
    }
}
