import java.io.ByteArrayOutputStream;
import java.util.zip.Adler32;
import java.util.zip.CRC32;

/**
 * The document written down a second time, in other ways than the class: codes from written
 * tables, runs by trying every earlier place, sums by the Java library.
 */
final class PlainPacker {
    private static final int[] LENGTH_FIRST = {3, 4, 5, 6, 7, 8, 9, 10, 11, 13, 15, 17, 19, 23, 27, 31,
        35, 43, 51, 59, 67, 83, 99, 115, 131, 163, 195, 227, 258};
    private static final int[] LENGTH_MORE = {0, 0, 0, 0, 0, 0, 0, 0, 1, 1, 1, 1, 2, 2, 2, 2,
        3, 3, 3, 3, 4, 4, 4, 4, 5, 5, 5, 5, 0};
    private static final int[] DISTANCE_FIRST = {1, 2, 3, 4, 5, 7, 9, 13, 17, 25, 33, 49, 65, 97, 129, 193,
        257, 385, 513, 769, 1025, 1537, 2049, 3073, 4097, 6145, 8193, 12289, 16385, 24577};
    private static final int[] DISTANCE_MORE = {0, 0, 0, 0, 1, 1, 2, 2, 3, 3, 4, 4, 5, 5, 6, 6,
        7, 7, 8, 8, 9, 9, 10, 10, 11, 11, 12, 12, 13, 13};

    /** What all objects together have met, so that a test can tell that it met everything. */
    static final boolean[] LENGTHS_MET = new boolean[259];
    static final boolean[] DISTANCE_CODES_MET = new boolean[30];
    static final boolean[] FILTERS_MET = new boolean[5];

    final int width;
    final int height;
    final int[][] colours;
    byte[] file = new byte[0];
    int[] filters = new int[0];
    int singles = 0;
    int runs = 0;
    int longest = 0;
    private StringBuilder bits;

    PlainPacker(int width, int height) {
        this.width = width < 1 ? 1 : width > 48 ? 48 : width;
        this.height = height < 1 ? 1 : height > 48 ? 48 : height;
        colours = new int[this.height][this.width];
    }

    boolean set(int x, int y, int colour) {
        return fill(y, x, x, colour) == 1;
    }

    int fill(int y, int from, int to, int colour) {
        int filled = 0;
        for (int row = 0; row < height; row++) {
            for (int x = 0; x < width; x++) {
                if (row == y && x >= from && x <= to) {
                    colours[row][x] = colour & 0xFFFFFF;
                    filled++;
                }
            }
        }
        return filled;
    }

    int pixel(int x, int y) {
        return x < 0 || y < 0 || x >= width || y >= height ? -1 : colours[y][x];
    }

    int byteAt(int k) {
        return k < 0 || k >= file.length ? -1 : file[k] & 255;
    }

    int filter(int y) {
        return y < 0 || y >= filters.length ? -1 : filters[y];
    }

    int count(int what) {
        int[] counts = {file.length, singles, runs, longest, width, height};
        return what < 0 || what >= counts.length ? -1 : counts[what];
    }

    int put() {
        byte[] rows = rows();
        Adler32 sum = new Adler32();
        sum.update(rows);
        ByteArrayOutputStream data = new ByteArrayOutputStream();
        data.write(120);
        data.write(1);
        data.writeBytes(packed(rows));
        data.writeBytes(number(sum.getValue()));
        ByteArrayOutputStream header = new ByteArrayOutputStream();
        header.writeBytes(number(width));
        header.writeBytes(number(height));
        header.writeBytes(new byte[] {8, 2, 0, 0, 0});
        ByteArrayOutputStream all = new ByteArrayOutputStream();
        all.writeBytes(new byte[] {(byte) 137, 80, 78, 71, 13, 10, 26, 10});
        all.writeBytes(chunk("IHDR", header.toByteArray()));
        all.writeBytes(chunk("IDAT", data.toByteArray()));
        all.writeBytes(chunk("IEND", new byte[0]));
        file = all.toByteArray();
        return file.length;
    }

    private static byte[] number(long n) {
        return new byte[] {(byte) (n >> 24), (byte) (n >> 16), (byte) (n >> 8), (byte) n};
    }

    private static byte[] chunk(String name, byte[] data) {
        ByteArrayOutputStream named = new ByteArrayOutputStream();
        for (char letter : name.toCharArray()) {
            named.write(letter);
        }
        named.writeBytes(data);
        CRC32 crc = new CRC32();
        crc.update(named.toByteArray());
        ByteArrayOutputStream all = new ByteArrayOutputStream();
        all.writeBytes(number(data.length));
        all.writeBytes(named.toByteArray());
        all.writeBytes(number(crc.getValue()));
        return all.toByteArray();
    }

    private int part(int y, int i) {
        return y < 0 || i < 0 ? 0 : colours[y][i / 3] >> 16 - 8 * (i % 3) & 255;
    }

    private byte[] rows() {
        ByteArrayOutputStream rows = new ByteArrayOutputStream();
        filters = new int[height];
        for (int y = 0; y < height; y++) {
            byte[] best = null;
            int least = Integer.MAX_VALUE;
            for (int f = 4; f >= 0; f--) {
                byte[] row = row(y, f);
                int cost = 0;
                for (int i = 1; i < row.length; i++) {
                    cost += Math.abs(row[i]);
                }
                if (cost <= least) {
                    least = cost;
                    best = row;
                }
            }
            filters[y] = best[0];
            FILTERS_MET[best[0]] = true;
            rows.writeBytes(best);
        }
        return rows.toByteArray();
    }

    private byte[] row(int y, int f) {
        byte[] row = new byte[3 * width + 1];
        row[0] = (byte) f;
        for (int i = 0; i < 3 * width; i++) {
            int a = part(y, i - 3);
            int b = part(y - 1, i);
            int c = part(y - 1, i - 3);
            int near = a;
            for (int other : new int[] {b, c}) {
                if (Math.abs(other - (a + b - c)) < Math.abs(near - (a + b - c))) {
                    near = other;
                }
            }
            int[] guesses = {0, a, b, (a + b) / 2, near};
            row[i + 1] = (byte) (part(y, i) - guesses[f]);
        }
        return row;
    }

    private byte[] packed(byte[] rows) {
        bits = new StringBuilder("110");
        singles = 0;
        runs = 0;
        longest = 0;
        int at = 0;
        while (at < rows.length) {
            int length = 0;
            int distance = 0;
            for (int d = 1; d <= at && d <= 32768; d++) {
                int n = 0;
                while (n < 258 && at + n < rows.length && rows[at + n] == rows[at + n - d]) {
                    n++;
                }
                if (n > length) {
                    length = n;
                    distance = d;
                }
            }
            if (length >= 3) {
                run(length, distance);
                at += length;
            } else {
                single(rows[at] & 255);
                at++;
            }
        }
        highest(0, 7);
        while (bits.length() % 8 != 0) {
            bits.append('0');
        }
        byte[] packed = new byte[bits.length() / 8];
        for (int i = 0; i < bits.length(); i++) {
            packed[i / 8] |= (byte) (bits.charAt(i) - '0' << i % 8);
        }
        return packed;
    }

    private void single(int v) {
        singles++;
        if (v < 144) {
            highest(48 + v, 8);
        } else {
            highest(400 + v - 144, 9);
        }
    }

    private void run(int length, int distance) {
        runs++;
        longest = Math.max(longest, length);
        LENGTHS_MET[length] = true;
        int l = lastNotAbove(LENGTH_FIRST, length);
        if (257 + l < 280) {
            highest(1 + l, 7);
        } else {
            highest(192 + 257 + l - 280, 8);
        }
        lowest(length - LENGTH_FIRST[l], LENGTH_MORE[l]);
        int k = lastNotAbove(DISTANCE_FIRST, distance);
        DISTANCE_CODES_MET[k] = true;
        highest(k, 5);
        lowest(distance - DISTANCE_FIRST[k], DISTANCE_MORE[k]);
    }

    private static int lastNotAbove(int[] firsts, int n) {
        int found = 0;
        for (int i = 0; i < firsts.length; i++) {
            if (firsts[i] <= n) {
                found = i;
            }
        }
        return found;
    }

    private void highest(int value, int count) {
        for (int i = count - 1; i >= 0; i--) {
            bits.append((char) ('0' + (value >> i & 1)));
        }
    }

    private void lowest(int value, int count) {
        for (int i = 0; i < count; i++) {
            bits.append((char) ('0' + (value >> i & 1)));
        }
    }
}
