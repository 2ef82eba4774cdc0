import java.util.Arrays;

/** Pictures put out as files: filtered rows, packed with runs that point back, laid into chunks. */
public final class PicturePacker {
    public static final int NONE = -1;

    private static final int LONGEST_SIDE = 48;
    private static final int[] SIGNATURE = {137, 80, 78, 71, 13, 10, 26, 10};
    private static final int[] HEADER_END = {8, 2, 0, 0, 0};
    private static final int[] DATA_START = {120, 1};
    private static final int IHDR = 0x49484452;
    private static final int IDAT = 0x49444154;
    private static final int IEND = 0x49454E44;

    private final Picture picture;
    private final Rows rows;
    private final Output file;
    private final Chunks chunks;
    private final Packer packer;

    public PicturePacker(int width, int height) {
        picture = new Picture(side(width), side(height));
        rows = new Rows(picture);
        file = new Output(Output.roomFor(rows.bytes.length));
        chunks = new Chunks(file);
        packer = new Packer(rows.bytes, file);
    }

    public boolean set(int x, int y, int colour) {
        if (!picture.has(x, y)) {
            return false;
        }
        picture.paint(x, y, colour);
        return true;
    }

    public int fill(int y, int from, int to, int colour) {
        int first = Math.max(from, 0);
        int last = Math.min(to, picture.width - 1);
        if (!picture.has(0, y) || first > last) {
            return 0;
        }
        for (int x = first; x <= last; x++) {
            picture.paint(x, y, colour);
        }
        return last - first + 1;
    }

    public int pixel(int x, int y) {
        return picture.has(x, y) ? picture.colourOf(x, y) : NONE;
    }

    public int put() {
        rows.make();
        file.restart();
        file.addAll(SIGNATURE);
        addHeader();
        chunks.open(IDAT);
        file.addAll(DATA_START);
        packer.pack();
        file.addNumber(rows.sum());
        chunks.close();
        chunks.open(IEND);
        chunks.close();
        return file.size;
    }

    public int byteAt(int k) {
        return k >= 0 && k < file.size && k < file.bytes.length ? file.bytes[k] : NONE;
    }

    public int filter(int y) {
        return y >= 0 && y < rows.filters.length ? rows.filters[y] : NONE;
    }

    public int count(int what) {
        switch (what) {
            case 0:
                return file.size;
            case 1:
                return packer.singles;
            case 2:
                return packer.runs;
            case 3:
                return packer.longest;
            case 4:
                return picture.width;
            case 5:
                return picture.height;
            default:
                return NONE;
        }
    }

    private static int side(int asked) {
        return Math.max(1, Math.min(asked, LONGEST_SIDE));
    }

    private void addHeader() {
        chunks.open(IHDR);
        file.addNumber(picture.width);
        file.addNumber(picture.height);
        file.addAll(HEADER_END);
        chunks.close();
    }

    /**
     * The pixels as bytes. A row of zeros above and a pixel of zeros before each row stand for
     * what is beyond the picture, so that a guess needs no case of its own at the edges.
     */
    private static final class Picture {
        final int width;
        final int height;
        final int stride;
        final int[] bytes;

        Picture(int width, int height) {
            this.width = width;
            this.height = height;
            stride = 3 * (width + 1);
            bytes = new int[stride * (height + 1)];
        }

        boolean has(int x, int y) {
            return x >= 0 && x < width && y >= 0 && y < height;
        }

        int placeOf(int x, int y) {
            return (y + 1) * stride + 3 * (x + 1);
        }

        void paint(int x, int y, int colour) {
            int place = placeOf(x, y);
            if (place >= 0 && place < bytes.length - 2) {
                bytes[place] = colour >> 16 & 255;
                bytes[place + 1] = colour >> 8 & 255;
                bytes[place + 2] = colour & 255;
            }
        }

        int colourOf(int x, int y) {
            int place = placeOf(x, y);
            if (place < 0 || place >= bytes.length - 2) {
                return NONE;
            }
            return bytes[place] << 16 | bytes[place + 1] << 8 | bytes[place + 2];
        }

        int lessGuess(int chosen, int place) {
            if (place < stride + 3 || place >= bytes.length) {
                return 0;
            }
            int left = bytes[place - 3];
            int above = bytes[place - stride];
            int corner = bytes[place - stride - 3];
            return bytes[place] - guess(chosen, left, above, corner) & 255;
        }

        private static int guess(int chosen, int left, int above, int corner) {
            switch (chosen) {
                case 1:
                    return left;
                case 2:
                    return above;
                case 3:
                    return left + above >> 1;
                case 4:
                    return nearest(left, above, corner);
                default:
                    return 0;
            }
        }

        private static int nearest(int left, int above, int corner) {
            int aim = left + above - corner;
            int farLeft = Math.abs(aim - left);
            int farAbove = Math.abs(aim - above);
            int farCorner = Math.abs(aim - corner);
            if (farLeft <= farAbove && farLeft <= farCorner) {
                return left;
            }
            return farAbove <= farCorner ? above : corner;
        }
    }

    /** The rows of the latest file, one behind the other, each with its filter in front. */
    private static final class Rows {
        private static final int FILTERS = 5;
        private static final int SUM_MODULUS = 65521;

        final int[] bytes;
        final int[] filters;
        private final Picture picture;
        private final int rowLength;

        Rows(Picture picture) {
            this.picture = picture;
            rowLength = 3 * picture.width;
            bytes = new int[(rowLength + 1) * picture.height];
            filters = new int[picture.height];
            Arrays.fill(filters, NONE);
        }

        void make() {
            for (int y = 0; y < filters.length; y++) {
                int start = picture.placeOf(0, y);
                filters[y] = bestFilter(start);
                lay(y, filters[y], start);
            }
        }

        private int bestFilter(int start) {
            int best = 0;
            int least = cost(0, start);
            for (int chosen = 1; chosen < FILTERS; chosen++) {
                int cost = cost(chosen, start);
                if (cost < least) {
                    least = cost;
                    best = chosen;
                }
            }
            return best;
        }

        private int cost(int chosen, int start) {
            int cost = 0;
            for (int i = 0; i < rowLength; i++) {
                int value = picture.lessGuess(chosen, start + i);
                cost += Math.min(value, 256 - value);
            }
            return cost;
        }

        private void lay(int y, int chosen, int start) {
            int target = y * (rowLength + 1);
            if (target < 0 || target + rowLength >= bytes.length) {
                return;
            }
            bytes[target] = chosen;
            for (int i = 0; i < rowLength; i++) {
                bytes[target + 1 + i] = picture.lessGuess(chosen, start + i);
            }
        }

        int sum() {
            int a = 1;
            int b = 0;
            for (int i = 0; i < bytes.length; i++) {
                a = (a + bytes[i]) % SUM_MODULUS;
                b = (b + a) % SUM_MODULUS;
            }
            return b * 65536 + a;
        }
    }

    /** The bytes of the latest file; bits are gathered until they make a byte. */
    private static final class Output {
        private static final int BYTES_ROUND_PACKED = 63;

        final int[] bytes;
        int size;
        private int gathered;
        private int gatheredBits;

        Output(int room) {
            bytes = new int[room];
        }

        /**
         * No byte takes more than 9 bits: the shortest run, of 3 bytes, takes at most 25. The
         * 10 are the bits before and behind the signs.
         */
        static int roomFor(int rowBytes) {
            return BYTES_ROUND_PACKED + (9 * rowBytes + 10 + 7) / 8;
        }

        void restart() {
            size = 0;
            gathered = 0;
            gatheredBits = 0;
        }

        void addByte(int value) {
            if (size >= 0 && size < bytes.length) {
                bytes[size] = value & 255;
                size++;
            }
        }

        void addAll(int[] values) {
            for (int i = 0; i < values.length; i++) {
                addByte(values[i]);
            }
        }

        void addNumber(int number) {
            for (int shift = 24; shift >= 0; shift -= 8) {
                addByte(number >>> shift);
            }
        }

        void changeNumber(int place, int number) {
            if (place < 0 || place >= bytes.length - 3) {
                return;
            }
            for (int i = 0; i < 4; i++) {
                bytes[place + i] = number >>> 24 - 8 * i & 255;
            }
        }

        void addBitsHighestFirst(int value, int bits) {
            for (int i = bits - 1; i >= 0; i--) {
                addBit(value >> i & 1);
            }
        }

        void addBitsLowestFirst(int value, int bits) {
            for (int i = 0; i < bits; i++) {
                addBit(value >> i & 1);
            }
        }

        private void addBit(int bit) {
            gathered |= bit << gatheredBits;
            gatheredBits++;
            if (gatheredBits == 8) {
                addByte(gathered);
                gathered = 0;
                gatheredBits = 0;
            }
        }

        void endByte() {
            if (gatheredBits > 0) {
                addBitsLowestFirst(0, 8 - gatheredBits);
            }
        }
    }

    /** Lays chunks into the file, one at a time. */
    private static final class Chunks {
        private static final int CRC_PATTERN = -306674912;

        private final Output file;
        private final int[] crcOfByte;
        private int start;

        Chunks(Output file) {
            this.file = file;
            crcOfByte = new int[256];
            for (int i = 0; i < crcOfByte.length; i++) {
                crcOfByte[i] = eightSteps(i);
            }
        }

        private static int eightSteps(int value) {
            int c = value;
            for (int step = 0; step < 8; step++) {
                c = (c & 1) == 1 ? c >>> 1 ^ CRC_PATTERN : c >>> 1;
            }
            return c;
        }

        /** How many bytes the data have is known only at the end, so a 0 holds the place. */
        void open(int name) {
            start = file.size;
            file.addNumber(0);
            file.addNumber(name);
        }

        void close() {
            file.changeNumber(start, file.size - start - 8);
            file.addNumber(crc(start + 4, file.size));
        }

        private int crc(int from, int to) {
            int c = -1;
            for (int i = Math.max(from, 0); i < to && i < file.bytes.length; i++) {
                c = c >>> 8 ^ crcOfByte[(c ^ file.bytes[i]) & 255];
            }
            return ~c;
        }
    }

    /** Turns the rows' bytes into signs and counts them. */
    private static final class Packer {
        private static final int END = 256;
        private static final int SHORTEST_RUN = 257;
        private static final int LONGEST_RUN = 285;
        private static final int FIRST_BITS = 3;
        private static final int MOST_MORE_BITS = 13;

        private final int[] bytes;
        private final Output out;
        private final RunFinder finder;
        int singles;
        int runs;
        int longest;

        Packer(int[] bytes, Output out) {
            this.bytes = bytes;
            this.out = out;
            finder = new RunFinder(bytes);
        }

        void pack() {
            singles = 0;
            runs = 0;
            longest = 0;
            finder.restart();
            out.addBitsLowestFirst(FIRST_BITS, 3);
            int at = 0;
            while (at < bytes.length) {
                finder.lookFrom(at);
                if (finder.length > 0) {
                    addRun(finder.length, finder.distance);
                    at += finder.length;
                } else {
                    addSingle(bytes[at]);
                    at++;
                }
            }
            addRunSign(END);
            out.endByte();
        }

        private void addSingle(int value) {
            singles++;
            if (value < 144) {
                out.addBitsHighestFirst(48 + value, 8);
            } else {
                out.addBitsHighestFirst(400 + value - 144, 9);
            }
        }

        /**
         * The first lengths and distances of the signs are so chosen that, counted from the least
         * one on, the bits more are the lowest bits of a number and the sign tells the rest.
         */
        private void addRun(int length, int distance) {
            runs++;
            longest = Math.max(longest, length);
            int number = length - RunFinder.LEAST;
            int more = length == RunFinder.MOST ? 0 : moreBits(number, 8);
            addRunSign(length == RunFinder.MOST ? LONGEST_RUN : SHORTEST_RUN + 4 * more + (number >> more));
            out.addBitsLowestFirst(number, more);
            addDistance(distance - 1);
        }

        private void addDistance(int number) {
            int more = moreBits(number, 4);
            out.addBitsHighestFirst(2 * more + (number >> more), 5);
            out.addBitsLowestFirst(number, more);
        }

        /** How many of a number's lowest bits must go until the rest is below a limit. */
        private static int moreBits(int number, int limit) {
            int more = 0;
            while (more < MOST_MORE_BITS && number >> more >= limit) {
                more++;
            }
            return more;
        }

        private void addRunSign(int sign) {
            if (sign < 280) {
                out.addBitsHighestFirst(sign - 256, 7);
            } else {
                out.addBitsHighestFirst(192 + sign - 280, 8);
            }
        }
    }

    /**
     * Finds the longest run that points back, the nearest of those. Places whose next three
     * bytes have the same mark are chained from the newest on, since trying all earlier places
     * would make a large picture slow. No picture has 32,768 bytes in its rows, so every
     * earlier place is near enough.
     */
    private static final class RunFinder {
        static final int MOST = 258;
        static final int LEAST = 3;
        private static final int MARKS = 1024;

        private final int[] bytes;
        private final int[] newest;
        private final int[] next;
        private int chained;
        int length;
        int distance;

        RunFinder(int[] bytes) {
            this.bytes = bytes;
            newest = new int[MARKS];
            next = new int[bytes.length];
        }

        void restart() {
            Arrays.fill(newest, NONE);
            chained = 0;
        }

        /** Leaves a length of 0 if there is no run. */
        void lookFrom(int at) {
            length = 0;
            distance = 0;
            chainUpTo(at);
            int most = Math.min(MOST, bytes.length - at);
            if (at < 0 || most < LEAST) {
                return;
            }
            int place = newest[mark(at)];
            for (int tries = 0; tries < at && length < most; tries++) {
                if (place < 0 || place >= at) {
                    return;
                }
                // Only a place that also has the byte behind the best run so far can have a longer one.
                if (bytes[place + length] == bytes[at + length]) {
                    keepIfLonger(place, at, most);
                }
                place = next[place];
            }
        }

        private void keepIfLonger(int place, int at, int most) {
            int same = sameBytes(place, at, most);
            if (same >= LEAST && same > length) {
                length = same;
                distance = at - place;
            }
        }

        private void chainUpTo(int at) {
            while (chained < at && chained + LEAST <= bytes.length) {
                int mark = mark(chained);
                next[chained] = newest[mark];
                newest[mark] = chained;
                chained++;
            }
        }

        private int mark(int place) {
            if (place < 0 || place + LEAST > bytes.length) {
                return 0;
            }
            return (bytes[place] * 33 + bytes[place + 1]) * 33 + bytes[place + 2] & MARKS - 1;
        }

        private int sameBytes(int place, int at, int most) {
            int same = 0;
            while (same < most && at + same < bytes.length && bytes[place + same] == bytes[at + same]) {
                same++;
            }
            return same;
        }
    }
}
