/** Promise 5, SUM: "mod 65521", on each side of the edge, with sums written by hand. */
public final class SumTest {
    public static void main(String[] args) {
        small();
        firstSumAtTheEdge();
        secondSumAtTheEdge();
        manyTimesRound();
        Due.end();
    }

    /** 0 1 2 3: a is 1, 1, 2, 4, 7 and b 0, 1, 3, 7, 14. */
    private static void small() {
        Due.is("the sum of 0 1 2 3", Reader.sum(Paint.rowBytes("small", 1, 1, new int[] {0, 1, 2, 3})),
            14 * 65536 + 7);
        Due.is("the sum of 0 0 0 0", Reader.sum(Paint.rowBytes("black", 1, 1, new int[] {0, 0, 0, 0})),
            4 * 65536 + 1);
    }

    /** a is 1 and all bytes: 256 of them are 255, and one more makes 65520, 65521 and 65522. */
    private static void firstSumAtTheEdge() {
        Due.is("a of 65519 in bytes", Reader.sum(scattered(256, 239)) & 65535, 65520);
        Due.is("a of 65520 in bytes", Reader.sum(scattered(256, 240)) & 65535, 0);
        Due.is("a of 65521 in bytes", Reader.sum(scattered(256, 241)) & 65535, 1);
    }

    /**
     * Of 145 bytes b is 145 and each byte times how many there are from it on: 255 * 144 +
     * 207 * 138 + 90 is 65376, and a is 1 + 255 + 207 + 1.
     */
    private static void secondSumAtTheEdge() {
        Due.is("b of 65520", sumWithOneAt(56), 65520 * 65536 + 464);
        Due.is("b of 65521", sumWithOneAt(55), 464);
        Due.is("b of 65522", sumWithOneAt(54), 65536 + 464);
    }

    private static int sumWithOneAt(int place) {
        int[] bytes = new int[145];
        bytes[1] = 255;
        bytes[7] = 207;
        bytes[place] = 1;
        return Reader.sum(Paint.rowBytes("one at " + place, 48, 1, bytes));
    }

    /** Behind the first pixel of a row its bytes are 255; here the sums go round once, at the end. */
    private static void manyTimesRound() {
        Careful packer = new Careful(48, 10);
        for (int y = 0; y < 10; y++) {
            for (int x = 0; x < 48; x++) {
                packer.set(x, y, (255 - x - y & 255) * 0x010101);
            }
        }
        packer.put();
        int[] rows = Reader.rows(packer);
        long a = 1;
        long b = rows.length;
        for (int i = 0; i < rows.length; i++) {
            a += rows[i];
            b += (long) rows[i] * (rows.length - i);
        }
        Due.is("a goes round often", a > 5 * 65521, true);
        Due.is("the sum of many", Reader.sum(packer) & 0xFFFFFFFFL, b % 65521 * 65536 + a % 65521);
    }

    /** Each 255 has zeros on all sides, so that filter 0 is the cheapest; the last one is given. */
    private static Careful scattered(int count, int last) {
        int[] bytes = new int[48 * 145];
        for (int i = 0; i <= count; i++) {
            int place = 290 * (i / 24) + 1 + 6 * (i % 24);
            bytes[place] = i < count ? 255 : last;
        }
        return Paint.rowBytes("scattered, " + last, 48, 48, bytes);
    }
}
