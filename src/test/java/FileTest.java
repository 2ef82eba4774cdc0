import java.util.Random;
import java.util.zip.CRC32;

/** Promise 5, THE FILE and CHUNKS. */
public final class FileTest {
    private static final int[] START = {137, 80, 78, 71, 13, 10, 26, 10};
    private static final int[] LAST_CHUNK = {0, 0, 0, 0, 73, 69, 78, 68, 174, 66, 96, 130};

    public static void main(String[] args) {
        smallestFile();
        highestByteFirst();
        lengthsOfTwoBytes();
        lastChunkHasNoData();
        sumsOfChunks();
        Due.end();
    }

    /** The picture of one black pixel, each byte of its file from the document by hand. */
    private static void smallestFile() {
        Careful packer = new Careful(Integer.MIN_VALUE, Integer.MIN_VALUE);
        // The bits 110 00110000 0000001 00000 0000000 00 are the bytes 99, 0, 2 and 0.
        int[] due = {137, 80, 78, 71, 13, 10, 26, 10, 0, 0, 0, 13, 73, 72, 68, 82, 0, 0, 0, 1, 0, 0, 0, 1, 8, 2, 0, 0,
            0, 144, 119, 83, 222, 0, 0, 0, 10, 73, 68, 65, 84, 120, 1, 99, 0, 2, 0, 0, 4, 0, 1};
        Due.is("put()", packer.put(), 67);
        bytesFrom("the smallest file", packer, 0, due);
    }

    /** "numbers have the highest byte first": width, height and the sums. */
    private static void highestByteFirst() {
        Careful packer = new Careful(Integer.MAX_VALUE, 47);
        packer.put();
        bytesFrom("start", packer, 0, START);
        bytesFrom("the header's size", packer, 8, new int[] {0, 0, 0, 13, 73, 72, 68, 82});
        bytesFrom("width and height", packer, 16, new int[] {0, 0, 0, 48, 0, 0, 0, 47, 8, 2, 0, 0, 0});
        Careful pixel = new Careful(1, 1);
        pixel.set(0, 0, 0xFFFEFD);
        pixel.put();
        // a is 1 + 255 + 254 + 253 = 763, b is 1 + 256 + 510 + 763 = 1530: 2, 251 and 5, 250.
        bytesFrom("the sum", pixel, pixel.count(0) - 20, new int[] {5, 250, 2, 251});
    }

    /** The same, for data of more than 255 bytes: 255 and 256 are among the sizes. */
    private static void lengthsOfTwoBytes() {
        boolean[] met = new boolean[8000];
        Random random = new Random(1);
        for (int picture = 0; picture < 36; picture++) {
            Careful packer = new Careful(40 + picture % 9, 2);
            for (int i = 0; i < 96; i++) {
                packer.set(i / 2, i % 2, random.nextInt());
                met[dataSize(packer)] = true;
            }
        }
        Due.is("met data of 255 bytes", met[255], true);
        Due.is("met data of 256 bytes", met[256], true);
        Careful large = new Careful(48, 10);
        for (int i = 0; i < 48 * 10; i++) {
            large.set(i % 48, i / 48, random.nextInt());
        }
        Due.is("a large picture's data", dataSize(large) > 1400, true);
    }

    private static int dataSize(Careful packer) {
        int size = packer.put() - 57;
        bytesFrom("data of " + size, packer, 33, new int[] {0, 0, size / 256, size % 256, 73, 68, 65, 84, 120, 1});
        return size;
    }

    /** "IEND: none": the last chunk is the same in every file. */
    private static void lastChunkHasNoData() {
        Random random = new Random(3);
        for (int side = 1; side <= 48; side++) {
            Careful packer = new Careful(side, 49 - side);
            for (int file = 0; file < 2; file++) {
                int size = packer.put();
                bytesFrom("the last chunk", packer, size - 12, LAST_CHUNK);
                Due.is("behind the last chunk", packer.byteAt(size), -1);
                packer.set(0, 0, random.nextInt() | 1);
            }
        }
    }

    /** "CRC of name and data (4)": of each chunk, by the library's sum. */
    private static void sumsOfChunks() {
        Random random = new Random(4);
        for (int i = 0; i < 20; i++) {
            Careful packer = new Careful(1 + random.nextInt(48), 1 + random.nextInt(48));
            packer.fill(0, 0, random.nextInt(48), random.nextInt());
            packer.set(0, 0, random.nextInt());
            int size = packer.put();
            int place = 8;
            int chunks = 0;
            while (place >= 8 && place < size && chunks < 3) {
                int data = Reader.number(packer, place);
                CRC32 crc = new CRC32();
                for (int k = place + 4; k < place + 8 + data; k++) {
                    crc.update(packer.byteAt(k));
                }
                Due.is("the sum of the chunk at " + place, Reader.number(packer, place + 8 + data),
                    (int) crc.getValue());
                place += 12 + data;
                chunks++;
            }
            Due.is("three chunks fill the file", chunks == 3 && place == size, true);
        }
    }

    private static void bytesFrom(String name, Careful packer, int place, int[] due) {
        for (int i = 0; i < due.length; i++) {
            Due.is(name + ": byteAt(" + (place + i) + ")", packer.byteAt(place + i), due[i]);
        }
    }
}
