/** Promise 5, PACKED: each method has one sentence of it, with signs and bits written by hand. */
public final class PackedTest {
    /** The sign, the first and the last of its lengths, its own bits and how many bits more. */
    private static final Object[][] LENGTHS = {
        {257, 3, 3, "0000001", 0}, {258, 4, 4, "0000010", 0}, {259, 5, 5, "0000011", 0}, {260, 6, 6, "0000100", 0},
        {261, 7, 7, "0000101", 0}, {262, 8, 8, "0000110", 0}, {263, 9, 9, "0000111", 0}, {264, 10, 10, "0001000", 0},
        {265, 11, 12, "0001001", 1}, {266, 13, 14, "0001010", 1}, {267, 15, 16, "0001011", 1},
        {268, 17, 18, "0001100", 1}, {269, 19, 22, "0001101", 2}, {270, 23, 26, "0001110", 2},
        {271, 27, 30, "0001111", 2}, {272, 31, 34, "0010000", 2}, {273, 35, 42, "0010001", 3},
        {274, 43, 50, "0010010", 3}, {275, 51, 58, "0010011", 3}, {276, 59, 66, "0010100", 3},
        {277, 67, 82, "0010101", 4}, {278, 83, 98, "0010110", 4}, {279, 99, 114, "0010111", 4},
        {280, 115, 130, "11000000", 4}, {281, 131, 162, "11000001", 5}, {282, 163, 194, "11000010", 5},
        {283, 195, 226, "11000011", 5}};
    /** k, the first and the last of its distances, its own bits and how many bits more. */
    private static final Object[][] DISTANCES = {
        {4, 5, 6, "00100", 1}, {5, 7, 8, "00101", 1}, {6, 9, 12, "00110", 2}, {7, 13, 16, "00111", 2},
        {8, 17, 24, "01000", 3}, {9, 25, 32, "01001", 3}, {10, 33, 48, "01010", 4}, {11, 49, 64, "01011", 4},
        {12, 65, 96, "01100", 5}, {13, 97, 128, "01101", 5}, {14, 129, 192, "01110", 6}, {15, 193, 256, "01111", 6},
        {16, 257, 384, "10000", 7}, {17, 385, 512, "10001", 7}, {18, 513, 768, "10010", 8},
        {19, 769, 1024, "10011", 8}, {20, 1025, 1536, "10100", 9}, {21, 1537, 2048, "10101", 9},
        {22, 2049, 3072, "10110", 10}, {23, 3073, 4096, "10111", 10}, {24, 4097, 6144, "11000", 11}};

    public static void main(String[] args) {
        firstBits();
        upToAWholeByte();
        atLeastThree();
        fewerThanThreeLeft();
        mayOverlap();
        farthest();
        longestThoughFarther();
        longestThoughFarthest();
        secondFile();
        atMost258();
        nearestOfTheSame();
        goesOnBehindIt();
        bytesBelow144();
        lengthsBelow11();
        signsBelow280();
        firstAndLastLengths();
        but258Is285();
        shortDistances();
        firstAndLastDistances();
        Due.end();
    }

    /** "1, 1, 0; then SIGNS; then the sign 256; 0s up to a whole byte". */
    private static void firstBits() {
        Careful packer = onePixel(1, 2, 3);
        Due.is("the bits of 1 2 3", new Reader(packer).bits,
            "110" + "00110000" + "00110001" + "00110010" + "00110011" + "0000000" + "000000");
    }

    /**
     * "0s up to a whole byte": without runs each byte takes 8 bits and one more from 144 on, so
     * that as many of these as given leave 0 to 7 bits.
     */
    private static void upToAWholeByte() {
        zerosAtTheEnd(2, new int[] {236, 216, 196, 255, 253, 251}, 72, 0);
        zerosAtTheEnd(2, new int[] {236, 216, 196, 255, 253, 5}, 71, 1);
        zerosAtTheEnd(2, new int[] {236, 216, 196, 255, 3, 5}, 70, 2);
        zerosAtTheEnd(2, new int[] {236, 216, 196, 1, 3, 5}, 69, 3);
        zerosAtTheEnd(2, new int[] {236, 216, 60, 1, 3, 5}, 68, 4);
        zerosAtTheEnd(2, new int[] {236, 40, 60, 1, 3, 5}, 67, 5);
        zerosAtTheEnd(2, new int[] {20, 40, 60, 1, 3, 5}, 66, 6);
        zerosAtTheEnd(3, new int[] {236, 216, 196, 255, 253, 251, 249, 6, 7}, 97, 7);
    }

    private static void zerosAtTheEnd(int width, int[] pixels, int bits, int zeros) {
        int[] bytes = new int[pixels.length + 1];
        System.arraycopy(pixels, 0, bytes, 1, pixels.length);
        String name = zeros + " zeros";
        Careful packer = Paint.rowBytes(name, width, 1, bytes);
        Reader reader = new Reader(packer);
        Due.is(name + ": runs", packer.count(2), 0);
        Due.is(name + ": bits before", reader.end, bits);
        Due.is(name + ": the bits behind", reader.bits.substring(reader.end), "0".repeat(zeros));
        Due.is(name + ": the file's bytes", packer.count(0), 63 + (bits + zeros) / 8);
    }

    /** "if at least 3 bytes from here on are as those from an earlier place on": 2 are too few. */
    private static void atLeastThree() {
        Due.is("2 the same", new Reader(onePixel(0, 0, 1)).text(), "0 0 0 1");
        Due.is("3 the same", new Reader(onePixel(0, 0, 0)).text(), "0 3<1");
        // 9 5 40 and 9 6 7 have the same mark in the class, though only the first byte is the same.
        signs("1 again", 3, new int[] {0, 9, 5, 40, 0, 255, 0, 9, 6, 7}, "0 9 5 40 0 255 0 9 6 7");
        signs("2 again", 4, new int[] {0, 9, 5, 0, 0, 255, 9, 5, 1, 7}, "0 9 5 0 0 255 9 5 1 7 0 0 0");
    }

    /** The same: what is left at the end may be as bytes before, and still be too short. */
    private static void fewerThanThreeLeft() {
        Careful one = new Careful(3, 26);
        one.put();
        Due.is("1 left", new Reader(one).text(), "0 258<1 0");
        int[] bytes = {0, 9, 5, 6, 0, 255, 0, 8, 0, 0, 254, 9, 5};
        signs("2 left", 4, bytes, "0 9 5 6 0 255 0 8 0 0 254 9 5");
    }

    /** "(which may overlap)": runs that are longer than they point back. */
    private static void mayOverlap() {
        Careful black = new Careful(48, 1);
        black.put();
        Due.is("back 1", new Reader(black).text(), "0 144<1");
        signs("back 2", 2, new int[] {0, 7, 0, 7, 0, 7, 0}, "0 7 5<2");
        Careful slope = new Careful(8, 1);
        for (int x = 0; x < 8; x++) {
            slope.set(x, 0, (x + 1) * 0x020304);
        }
        slope.put();
        Due.is("back 3", new Reader(slope).text(), "1 2 3 4 21<3");
    }

    /**
     * "at most 32,768 before": the largest picture has 6,960 bytes in its rows, so no place is
     * too far; the last three bytes are as the first three.
     */
    private static void farthest() {
        int[] bytes = new int[6960];
        bytes[1] = 5;
        bytes[2] = 3;
        bytes[6956] = 255;
        bytes[6958] = 5;
        bytes[6959] = 3;
        Reader reader = new Reader(Paint.rowBytes("farthest", 48, 48, bytes));
        Due.is("farthest", reader.signs.get(reader.signs.size() - 1), "3<6957");
        Due.is("farthest: bits", reader.lastBits(), "0000001" + "11001" + "00110100110");
    }

    /** "the longest such run": a nearer one of 3 does not count beside a farther one of 4. */
    private static void longestThoughFarther() {
        int[] bytes = {0, 9, 5, 7, 11, 255, 0, 9, 5, 7, 0, 254, 0, 253, 9, 5, 7, 11, 252};
        signs("farther but longer", 6, bytes, "0 9 5 7 11 255 4<6 0 254 0 253 4<13 252");
    }

    /** The same with four nearer places, each with a run of 5, before the one with a run of 7. */
    private static void longestThoughFarthest() {
        int[] bytes = {0, 20, 0, 0, 9, 5, 7, 249, 0, 0, 9, 5, 7, 255, 0, 0, 9, 5, 7, 254, 0, 0, 9, 5, 7, 253,
            0, 0, 9, 5, 7, 252, 0, 0, 9, 5, 7, 249, 0, 1};
        signs("farthest but longest", 13, bytes,
            "0 20 0 0 9 5 7 249 5<6 255 5<6 254 5<6 253 5<6 252 7<30 1");
    }

    /** "an earlier place": one of the same file; the runs of a second file are those of a first. */
    private static void secondFile() {
        int[] bytes = {0, 9, 5, 7, 255, 0, 9, 5, 7, 254, 5, 7, 254};
        Careful packer = Paint.rowBytes("the first file", 4, 1, bytes);
        String due = "0 9 5 7 255 4<5 254 3<3";
        Due.is("the first file's signs", new Reader(packer).text(), due);
        packer.put();
        Due.is("the second file's signs", new Reader(packer).text(), due);
    }

    /** "at most 258": of 257 to 261 zeros behind the first. */
    private static void atMost258() {
        int[] ends = {258, 259, 260, 261, 262, 263};
        String[] due = {"0 257<1 1", "0 258<1 1", "0 258<1 0 1", "0 258<1 0 0 1", "0 258<1 3<1 1", "0 258<1 4<1 1"};
        for (int i = 0; i < ends.length; i++) {
            int[] bytes = new int[ends[i] + 1];
            bytes[ends[i]] = 1;
            String text = new Reader(Paint.rowBytes("end " + ends[i], 48, 2, bytes)).text();
            Due.is("zeros up to " + ends[i], text.substring(0, Math.min(text.length(), due[i].length())), due[i]);
        }
        Careful just = new Careful(2, 37);
        just.put();
        Due.is("258 up to the end", new Reader(just).text(), "0 258<1");
    }

    /** "of places with runs of that length the nearest": of three places, and of two. */
    private static void nearestOfTheSame() {
        int[] bytes = {0, 9, 5, 7, 255, 0, 9, 5, 7, 254, 0, 9, 5, 7, 253};
        signs("the nearest", 5, bytes, "0 9 5 7 255 4<5 254 4<5 253 0");
        int[] other = {0, 9, 5, 7, 255, 0, 0, 9, 5, 7, 254, 0, 0, 0, 9, 5, 7, 253};
        signs("the nearest, again", 6, other, "0 9 5 7 255 0 4<6 254 0 5<7 253 0");
    }

    /** "and it goes on behind it": the run at the next byte may point into the run before. */
    private static void goesOnBehindIt() {
        int[] bytes = {0, 9, 5, 7, 255, 0, 9, 5, 7, 254, 5, 7, 254, 253};
        signs("into the run before", 5, bytes, "0 9 5 7 255 4<5 254 3<3 253 0 0");
    }

    /** "A byte v: below 144 the 8 bits of 48 + v, else the 9 bits of 400 + v - 144". */
    private static void bytesBelow144() {
        Due.is("the bits of 143 144 255", new Reader(onePixel(143, 144, 255)).bits,
            "110" + "00110000" + "10111111" + "110010000" + "111111111" + "0000000" + "0000");
        for (int v = 1; v < 256; v++) {
            Reader reader = new Reader(onePixel(v, 0, v));
            Due.is("the signs of " + v, reader.text(), "0 " + v + " 0 " + v);
            String bits = Integer.toBinaryString(v < 144 ? 48 + v : 400 + v - 144);
            Due.is("the bits of " + v, reader.lastBits(), "0".repeat((v < 144 ? 8 : 9) - bits.length()) + bits);
        }
    }

    /** "257 + n - 3 for n below 11": 10 is the last without a bit more. */
    private static void lengthsBelow11() {
        Due.is("a run of 10", runOf(10), "0001000" + "00000");
        Due.is("a run of 11", runOf(11), "0001001" + "0" + "00000");
        Due.is("a run of 12", runOf(12), "0001001" + "1" + "00000");
    }

    /** "a sign below 280 is the 7 bits of it less 256, else the 8 bits of 192 + s - 280". */
    private static void signsBelow280() {
        Due.is("a run of 114, sign 279", runOf(114), "0010111" + "1111" + "00000");
        Due.is("a run of 115, sign 280", runOf(115), "11000000" + "0000" + "00000");
    }

    /** "in rows of four": the first of a sign's lengths has 0s as bits more, the last 1s. */
    private static void firstAndLastLengths() {
        for (Object[] row : LENGTHS) {
            int more = (int) row[4];
            Due.is("the first length of the sign " + row[0], runOf((int) row[1]),
                row[3] + "0".repeat(more) + "00000");
            Due.is("the last length of the sign " + row[0], runOf((int) row[2]),
                row[3] + "1".repeat(more) + "00000");
        }
        // 227 + 1: the lowest of the bits more comes first.
        Due.is("a run of 228", runOf(228), "11000100" + "10000" + "00000");
    }

    /** "but 258 is 285": 257 is the last of 284. */
    private static void but258Is285() {
        Due.is("a run of 227", runOf(227), "11000100" + "00000" + "00000");
        Due.is("a run of 257", runOf(257), "11000100" + "01111" + "00000");
        Due.is("a run of 258", runOf(258), "11000101" + "00000");
    }

    /** "0 .. 3 for 1 .. 4". */
    private static void shortDistances() {
        Due.is("back 1", new Reader(onePixel(0, 0, 0)).lastBits(), "0000001" + "00000");
        Due.is("back 2", new Reader(Paint.rowBytes("back 2", 2, 1, new int[] {0, 7, 0, 7, 0, 7, 0})).lastBits(),
            "0000011" + "00001");
        Careful slope = new Careful(2, 1);
        slope.set(0, 0, 0x020304);
        slope.set(1, 0, 0x040608);
        slope.put();
        Due.is("back 3: signs", new Reader(slope).text(), "1 2 3 4 3<3");
        Due.is("back 3", new Reader(slope).lastBits(), "0000001" + "00010");
        int[] four = {0, 7, 0, 0, 0, 7, 0, 0, 0, 7, 0, 0, 0};
        Reader reader = new Reader(Paint.rowBytes("back 4", 4, 1, four));
        Due.is("back 4: signs", reader.text(), "0 7 0 0 9<4");
        Due.is("back 4", reader.lastBits(), "0000111" + "00011");
    }

    /** "then in pairs": the first of k's distances has 0s as bits more, the last 1s. */
    private static void firstAndLastDistances() {
        for (Object[] row : DISTANCES) {
            int more = (int) row[4];
            Due.is("the first distance of " + row[0], runBack((int) row[1]), "0000001" + row[3] + "0".repeat(more));
            Due.is("the last distance of " + row[0], runBack((int) row[2]), "0000001" + row[3] + "1".repeat(more));
        }
        Due.is("the first distance of 25", runBack(6145), "0000001" + "11001" + "00000000000");
        // 129 + 1: the lowest of the bits more comes first.
        Due.is("a distance of 130", runBack(130), "0000001" + "01110" + "100000");
    }

    /** Zeros that end at a 1 are a byte and a run of the length, which points back by 1. */
    private static String runOf(int length) {
        int end = length + 1;
        int width = end % 145 == 0 ? 47 : 48;
        int[] bytes = new int[end + 1];
        bytes[end] = 1;
        Reader reader = new Reader(Paint.rowBytes("a run of " + length, width, 2, bytes));
        Due.is("the run of " + length, reader.signs.get(1), length + "<1");
        return reader.bitsOfSigns.get(1);
    }

    /** The last three bytes are as three before; 255 stands in front of these, so no byte more is. */
    private static String runBack(int distance) {
        int width = 48;
        while (onFilterByte(48 * (3 * width + 1) - 3 - distance, 3 * width + 1)) {
            width--;
        }
        int[] bytes = new int[48 * (3 * width + 1)];
        int last = bytes.length - 3;
        int[] three = {1, 2, 4};
        for (int i = 0; i < 3; i++) {
            bytes[last - distance + i] = three[i];
            bytes[last + i] = three[i];
        }
        bytes[last - 1] = 255;
        Reader reader = new Reader(Paint.rowBytes("a run back " + distance, width, 48, bytes));
        Due.is("the run back", reader.signs.get(reader.signs.size() - 1), "3<" + distance);
        return reader.lastBits();
    }

    private static boolean onFilterByte(int place, int stride) {
        return place % stride == 0 || place % stride > stride - 3;
    }

    private static void signs(String name, int width, int[] bytes, String due) {
        Due.is(name, new Reader(Paint.rowBytes(name, width, 1, bytes)).text(), due);
    }

    /** All filters leave a lone pixel as it is, so its row is 0 and its three bytes. */
    private static Careful onePixel(int red, int green, int blue) {
        return Paint.rowBytes("one pixel", 1, 1, new int[] {0, red, green, blue});
    }
}
