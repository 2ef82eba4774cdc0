import java.util.Random;

/** Promise 6. */
public final class ByteAtTest {
    /** The whole file of one pixel of the colour 0x010203. */
    private static final int[] ONE_PIXEL = {137, 80, 78, 71, 13, 10, 26, 10, 0, 0, 0, 13, 73, 72, 68, 82, 0, 0, 0, 1,
        0, 0, 0, 1, 8, 2, 0, 0, 0, 144, 119, 83, 222, 0, 0, 0, 12, 73, 68, 65, 84, 120, 1, 99, 96, 100, 98, 6, 0, 0,
        14, 0, 7, 197, 236, 88, 43, 0, 0, 0, 0, 73, 69, 78, 68, 174, 66, 96, 130};
    private static final int[] OUTSIDE = {Integer.MIN_VALUE, -69, -1, 69, 70, 8000, Integer.MAX_VALUE};

    public static void main(String[] args) {
        beforeTheFirstFile();
        everyByte();
        latestFileStays();
        afterASecondFile();
        shorterFileEndsEarlier();
        Due.end();
    }

    /** "NONE if there is none": before the first put there is no byte, with pixels set or not. */
    private static void beforeTheFirstFile() {
        Careful packer = new Careful(1, 1);
        for (int paint = 0; paint < 2; paint++) {
            for (int k = -1; k < 100; k++) {
                Due.is("byteAt(" + k + ") before a file", packer.byteAt(k), -1);
            }
            for (int k : OUTSIDE) {
                Due.is("byteAt(" + k + ") before a file", packer.byteAt(k), -1);
            }
            packer.set(0, 0, -1);
        }
    }

    /** "Byte k of the latest file; NONE if there is none": the first, the last and beyond both. */
    private static void everyByte() {
        Careful packer = new Careful(1, 1);
        packer.set(0, 0, 0x010203);
        int size = packer.put();
        Due.is("put()", size, 69);
        for (int k = 0; k < ONE_PIXEL.length; k++) {
            Due.is("byteAt(" + k + ")", packer.byteAt(k), ONE_PIXEL[k]);
        }
        for (int k : OUTSIDE) {
            Due.is("byteAt(" + k + ")", packer.byteAt(k), -1);
        }
    }

    /** "the latest file": what is painted behind a put is not in it. */
    private static void latestFileStays() {
        Pair pair = new Pair("stays", 6, 5);
        pair.file();
        pair.set(2, 2, 77);
        pair.file();
        pair.put();
        pair.set(2, 3, 0xABCDEF);
        pair.fill(4, 0, 5, 0x123456);
        pair.file();
        pair.put();
    }

    /** "the latest file", after a second put: the file of before is gone, whole. */
    private static void afterASecondFile() {
        Careful packer = new Careful(1, 1);
        packer.set(0, 0, -1);
        packer.put();
        packer.set(0, 0, 0x010203);
        Due.is("the second put()", packer.put(), 69);
        for (int k = 0; k < ONE_PIXEL.length; k++) {
            Due.is("byteAt(" + k + ") of the second file", packer.byteAt(k), ONE_PIXEL[k]);
        }
        for (int k : OUTSIDE) {
            Due.is("byteAt(" + k + ") of the second file", packer.byteAt(k), -1);
        }
    }

    /** The same where the second file is shorter: none is left of the longer one's end. */
    private static void shorterFileEndsEarlier() {
        Pair pair = new Pair("shorter", 10, 10);
        pair.noise(new Random(8), 0, 256);
        pair.put();
        int longer = pair.real.count(0);
        for (int y = 0; y < 10; y++) {
            pair.fill(y, 0, 9, 0);
        }
        pair.put();
        Due.is("the second is shorter", pair.real.count(0) < longer, true);
        for (int k = pair.real.count(0); k <= longer; k++) {
            Due.is("byteAt(" + k + ") beyond the shorter file", pair.real.byteAt(k), -1);
        }
    }
}
