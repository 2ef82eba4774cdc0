import java.util.Random;

/** The class and the plain one side by side: each call is made on both, and compared. */
final class Pair {
    final Careful real;
    final PlainPacker plain;
    private final String name;

    Pair(String name, int width, int height) {
        this.name = name + " (" + width + ", " + height + "): ";
        real = new Careful(width, height);
        plain = new PlainPacker(width, height);
    }

    void set(int x, int y, int colour) {
        Due.is(name + "set(" + x + ", " + y + ", " + colour + ")",
            real.set(x, y, colour), plain.set(x, y, colour));
    }

    void fill(int y, int from, int to, int colour) {
        Due.is(name + "fill(" + y + ", " + from + ", " + to + ", " + colour + ")",
            real.fill(y, from, to, colour), plain.fill(y, from, to, colour));
    }

    void pixel(int x, int y) {
        Due.is(name + "pixel(" + x + ", " + y + ")", real.pixel(x, y), plain.pixel(x, y));
    }

    void pixels() {
        for (int y = -1; y <= plain.height; y++) {
            for (int x = -1; x <= plain.width; x++) {
                pixel(x, y);
            }
        }
    }

    void put() {
        Due.is(name + "put()", real.put(), plain.put());
        file();
    }

    /** All that the latest file answers, one place beyond each end too. */
    void file() {
        for (int k = -1; k <= plain.file.length; k++) {
            byteAt(k);
        }
        for (int y = -1; y <= plain.height; y++) {
            filter(y);
        }
        for (int what = -1; what <= 6; what++) {
            count(what);
        }
    }

    void byteAt(int k) {
        Due.is(name + "byteAt(" + k + ")", real.byteAt(k), plain.byteAt(k));
    }

    void filter(int y) {
        Due.is(name + "filter(" + y + ")", real.filter(y), plain.filter(y));
    }

    void count(int what) {
        Due.is(name + "count(" + what + ")", real.count(what), plain.count(what));
    }

    /** Every pixel has a colour of its own. */
    void noise(Random random, int least, int span) {
        for (int y = 0; y < plain.height; y++) {
            for (int x = 0; x < plain.width; x++) {
                set(x, y, colour(random, least, span));
            }
        }
    }

    /** Each part from least on, span values wide, around 0 and modulo 256. */
    static int colour(Random random, int least, int span) {
        int red = random.nextInt(span) + least & 255;
        int green = random.nextInt(span) + least & 255;
        int blue = random.nextInt(span) + least & 255;
        return red << 16 | green << 8 | blue;
    }
}
