import java.io.ByteArrayOutputStream;
import java.util.ArrayList;
import java.util.List;
import java.util.zip.DataFormatException;
import java.util.zip.Inflater;

/**
 * Reads the latest file of an object. The rows come from the Java library; the signs are read by
 * hand, since the library does not tell them.
 */
final class Reader {
    private static final int DATA_PLACE = 41;
    private static final int[] LENGTH_FIRST = {3, 4, 5, 6, 7, 8, 9, 10, 11, 13, 15, 17, 19, 23, 27, 31,
        35, 43, 51, 59, 67, 83, 99, 115, 131, 163, 195, 227, 258};
    private static final String LENGTH_MORE = "00000000111122223333444455550";
    private static final int[] DISTANCE_FIRST = {1, 2, 3, 4, 5, 7, 9, 13, 17, 25, 33, 49, 65, 97, 129, 193,
        257, 385, 513, 769, 1025, 1537, 2049, 3073, 4097, 6145, 8193, 12289, 16385, 24577};

    /** Each sign as a text: a byte as its number, a run as "length<distance". */
    final List<String> signs = new ArrayList<>();
    /** The bits of each sign of the list above, in the order in which they lie. */
    final List<String> bitsOfSigns = new ArrayList<>();
    final String bits;
    /** The place behind the bits of the sign 256. */
    final int end;
    private int at = 3;

    Reader(Careful packer) {
        bits = packedBits(packer);
        int from = at;
        int sign = sign();
        while (sign != 256) {
            signs.add(sign < 256 ? "" + sign : run(sign - 257));
            bitsOfSigns.add(bits.substring(from, at));
            from = at;
            sign = sign();
        }
        end = at;
    }

    String text() {
        return String.join(" ", signs);
    }

    String lastBits() {
        return bitsOfSigns.get(bitsOfSigns.size() - 1);
    }

    private String run(int l) {
        int length = LENGTH_FIRST[l] + lowest(LENGTH_MORE.charAt(l) - '0');
        int k = highest(5);
        int distance = DISTANCE_FIRST[k] + lowest(k < 4 ? 0 : k / 2 - 1);
        return length + "<" + distance;
    }

    private int sign() {
        int seven = highest(7);
        if (seven < 24) {
            return 256 + seven;
        }
        int eight = 2 * seven + highest(1);
        if (eight < 192) {
            return eight - 48;
        }
        if (eight < 200) {
            return 280 + eight - 192;
        }
        return 144 + 2 * eight + highest(1) - 400;
    }

    private int highest(int count) {
        int value = 0;
        for (int i = 0; i < count; i++) {
            value = 2 * value + bits.charAt(at++) - '0';
        }
        return value;
    }

    private int lowest(int count) {
        int value = 0;
        for (int i = 0; i < count; i++) {
            value += bits.charAt(at++) - '0' << i;
        }
        return value;
    }

    private static String packedBits(Careful packer) {
        StringBuilder text = new StringBuilder();
        int last = DATA_PLACE + number(packer, 33) - 4;
        for (int k = DATA_PLACE + 2; k < last; k++) {
            for (int i = 0; i < 8; i++) {
                text.append(packer.byteAt(k) >> i & 1);
            }
        }
        return text.toString();
    }

    /** Four bytes from a place on, the highest first. */
    static int number(Careful packer, int place) {
        int number = 0;
        for (int i = 0; i < 4; i++) {
            number = number << 8 | packer.byteAt(place + i);
        }
        return number;
    }

    /** The number behind the packed bytes. */
    static int sum(Careful packer) {
        return number(packer, DATA_PLACE + number(packer, 33) - 4);
    }

    static int[] rows(Careful packer) {
        byte[] data = new byte[packer.count(0) - 57];
        for (int i = 0; i < data.length; i++) {
            data[i] = (byte) packer.byteAt(DATA_PLACE + i);
        }
        byte[] rows = unpacked(data);
        int[] values = new int[rows.length];
        for (int i = 0; i < values.length; i++) {
            values[i] = rows[i] & 255;
        }
        return values;
    }

    /** The library also looks at the SUM; what it refuses is a wrong answer. */
    private static byte[] unpacked(byte[] data) {
        Inflater inflater = new Inflater();
        inflater.setInput(data);
        ByteArrayOutputStream rows = new ByteArrayOutputStream();
        byte[] some = new byte[8000];
        try {
            rows.write(some, 0, inflater.inflate(some));
        } catch (DataFormatException refused) {
            Due.is("the library reads the data: " + refused.getMessage(), false, true);
        }
        Due.is("the packed bytes end where the data end", inflater.finished() && inflater.getRemaining() == 0, true);
        inflater.end();
        return rows.toByteArray();
    }
}
