import java.util.Random;

/** Promise 5: the files are as the plain packer's, and a reader gets the picture back. */
public final class PutTest {
    /** So that a put and the calls that ask have room within the 512 of one object. */
    private static final int MOST_SETS = 480;

    public static void main(String[] args) {
        evenPictures();
        noises();
        largestPicture();
        runsOfEveryLength();
        farRuns();
        latestPictureCounts();
        for (int n = 3; n <= 258; n++) {
            Due.is("met a run of " + n, PlainPacker.LENGTHS_MET[n], true);
        }
        for (int k = 0; k <= 25; k++) {
            Due.is("met a distance of code " + k, PlainPacker.DISTANCE_CODES_MET[k], true);
        }
        for (int f = 0; f <= 4; f++) {
            Due.is("met filter " + f, PlainPacker.FILTERS_MET[f], true);
        }
        Due.end();
    }

    private static void evenPictures() {
        int[] sides = {1, 2, 3, 17, 47, 48};
        int[] colours = {0, 1, 0x808080, 0xFFFFFF, 0x102030};
        for (int width : sides) {
            for (int height : sides) {
                for (int colour : colours) {
                    Pair pair = new Pair("even", width, height);
                    for (int y = 0; y < height; y++) {
                        pair.fill(y, 0, 47, colour);
                    }
                    putAndRead(pair);
                }
            }
        }
    }

    private static void noises() {
        Random random = new Random(5);
        int[] spans = {2, 3, 9, 40, 128, 200, 256};
        for (int span : spans) {
            for (int least : new int[] {0, -span / 2, 100, 143}) {
                int width = 1 + random.nextInt(48);
                Pair pair = new Pair("noise", width, 1 + random.nextInt(Math.min(48, MOST_SETS / width)));
                pair.noise(random, least, span);
                putAndRead(pair);
            }
        }
        for (int least : new int[] {0, -20, 144}) {
            noise(new Pair("widest noise", 48, MOST_SETS / 48), random, least);
            noise(new Pair("highest noise", MOST_SETS / 48, 48), random, least);
            noise(new Pair("square noise", 22, 22), random, least);
        }
    }

    private static void noise(Pair pair, Random random, int least) {
        pair.noise(random, least, 112);
        putAndRead(pair);
    }

    /** The largest picture: as many pixels as the calls of one object allow, all over it. */
    private static void largestPicture() {
        Random random = new Random(10);
        for (int least : new int[] {0, -20, 144}) {
            Pair pair = new Pair("largest", 48, 48);
            for (int y = 0; y < 48; y++) {
                pair.fill(y, random.nextInt(48), random.nextInt(48), random.nextInt());
            }
            for (int i = 0; i < MOST_SETS - 48; i++) {
                pair.set(random.nextInt(48), random.nextInt(48), Pair.colour(random, least, 112));
            }
            putAndRead(pair);
        }
    }

    /** A lone pixel in an even picture cuts the run of zeros at each length there is. */
    private static void runsOfEveryLength() {
        for (int place = 0; place < 96; place++) {
            for (int part = 0; part < 24; part += 8) {
                Pair pair = new Pair("cut", 48, 2);
                pair.set(place % 48, place / 48, 1 << part);
                putAndRead(pair);
            }
        }
        for (int width = 28; width <= 48; width++) {
            Pair pair = new Pair("longest runs", width, 9);
            pair.set(0, 4, 0x010203);
            putAndRead(pair);
        }
    }

    /** Rows around 0 mostly take filter 0, so that pixels set again far below are a far run. */
    private static void farRuns() {
        Random random = new Random(6);
        for (int back = 1; back < 48; back++) {
            Pair pair = new Pair("pixels again, back " + back, 48, 48);
            for (int y = 0; y < 48; y++) {
                boolean again = y >= back && (y - back) % 3 == 0;
                int from = random.nextInt(40);
                for (int x = again ? 0 : from; x < (again ? 48 : from + 8); x++) {
                    int colour = again ? pair.plain.pixel(x, y - back) : Pair.colour(random, -20, 41);
                    if (colour != 0) {
                        pair.set(x, y, colour);
                    }
                }
            }
            putAndRead(pair);
        }
    }

    private static void latestPictureCounts() {
        Pair pair = new Pair("again", 20, 20);
        putAndRead(pair);
        pair.noise(new Random(7), 0, 256);
        putAndRead(pair);
        putAndRead(pair);
        for (int y = 0; y < 20; y++) {
            pair.fill(y, 0, 19, 0);
        }
        putAndRead(pair);
    }

    private static void putAndRead(Pair pair) {
        pair.put();
        Careful real = pair.real;
        int[] rows = Reader.rows(real);
        int width = real.count(4);
        Due.is("rows' bytes", rows.length, real.count(5) * (3 * width + 1));
        int[][] read = unfiltered(rows, width, real.count(5));
        for (int y = 0; y < real.count(5); y++) {
            for (int x = 0; x < width; x++) {
                int colour = read[y][3 * x] << 16 | read[y][3 * x + 1] << 8 | read[y][3 * x + 2];
                Due.is("read back pixel " + x + ", " + y, colour, pair.plain.pixel(x, y));
            }
        }
    }

    private static int[][] unfiltered(int[] rows, int width, int height) {
        int[][] parts = new int[height][3 * width];
        for (int y = 0; y < height; y++) {
            int start = y * (3 * width + 1);
            for (int i = 0; i < 3 * width; i++) {
                int a = i < 3 ? 0 : parts[y][i - 3];
                int b = y == 0 ? 0 : parts[y - 1][i];
                int c = i < 3 || y == 0 ? 0 : parts[y - 1][i - 3];
                int toA = Math.abs(b - c);
                int toB = Math.abs(a - c);
                int toC = Math.abs(a + b - 2 * c);
                int near = toA <= toB && toA <= toC ? a : toB <= toC ? b : c;
                int[] guesses = {0, a, b, (a + b) / 2, near};
                parts[y][i] = rows[start + 1 + i] + guesses[rows[start]] & 255;
            }
        }
        return parts;
    }
}
