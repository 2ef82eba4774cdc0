/** Promise 5, A ROW: each method has one sentence of it, with rows written out by hand. */
public final class RowTest {
    public static void main(String[] args) {
        moduloBelow();
        moduloAbove();
        beyondTheLeft();
        beyondTheCorner();
        beyondTheTop();
        halfOfTheSum();
        nearestAtATie();
        leastFilterAtATie();
        lesserOfTheTwo();
        Due.end();
    }

    /** "x less its guess, modulo 256": what is below 0. */
    private static void moduloBelow() {
        Careful packer = Paint.greys(new int[][] {{200, 190, 189}});
        packer.put();
        Paint.rowsAre("below 0", packer, new int[] {1, 200, 200, 200, 246, 246, 246, 255, 255, 255});
    }

    /** "x less its guess, modulo 256": steps of 40 that go over 255 are the same steps. */
    private static void moduloAbove() {
        Careful packer = Paint.greys(new int[][] {{150, 190, 230, 14, 54, 94}});
        packer.put();
        Paint.rowsAre("over 255", packer,
            new int[] {1, 150, 150, 150, 40, 40, 40, 40, 40, 40, 40, 40, 40, 40, 40, 40, 40, 40, 40});
    }

    /** "(0 beyond the picture)": the pixel before the first is not the last of the row above. */
    private static void beyondTheLeft() {
        Careful packer = Paint.greys(new int[][] {{50, 200}, {200, 200}});
        packer.put();
        Paint.rowsAre("beyond the left", packer,
            new int[] {0, 50, 50, 50, 200, 200, 200, 1, 200, 200, 200, 0, 0, 0});
    }

    /** "(0 beyond the picture)": c of a first pixel is not the last of the row two above. */
    private static void beyondTheCorner() {
        Careful packer = Paint.greys(new int[][] {{0, 200}, {100, 90}, {120, 120}});
        packer.put();
        int[] rows = Reader.rows(packer);
        int[] due = {4, 20, 20, 20, 0, 0, 0};
        for (int i = 0; i < due.length; i++) {
            Due.is("beyond the corner: byte " + i, rows[14 + i], due[i]);
        }
    }

    /** "(0 beyond the picture)": above the first row, in the first file and in the next. */
    private static void beyondTheTop() {
        Careful packer = Paint.greys(new int[][] {{50, 30}, {255, 255}});
        for (int file = 1; file <= 2; file++) {
            packer.put();
            Paint.rowsAre("beyond the top, file " + file, packer,
                new int[] {3, 50, 50, 50, 5, 5, 5, 1, 255, 255, 255, 0, 0, 0});
        }
    }

    /** "DIV(a + b, 2)": 201 / 2 is 100, and 355 / 2 is 177: odd sums, one of them over 255. */
    private static void halfOfTheSum() {
        Careful packer = Paint.greys(new int[][] {{201, 255}, {100, 177}});
        packer.put();
        int[] rows = Reader.rows(packer);
        int[] due = {3, 0, 0, 0, 0, 0, 0};
        for (int i = 0; i < due.length; i++) {
            Due.is("half of the sum: byte " + i, rows[7 + i], due[i]);
        }
    }

    /**
     * "the first of these at a tie": red has a 90, b 120, c 100, where b and c are 10 from 110;
     * green has a 120, b 90, c 100, where a and c are; blue has a, b and c the same.
     */
    private static void nearestAtATie() {
        Careful packer = new Careful(2, 2);
        packer.set(0, 0, 0x646464);
        packer.set(1, 0, 0x785A64);
        packer.set(0, 1, 0x5A7864);
        packer.set(1, 1, 0x787864);
        packer.put();
        int[] rows = Reader.rows(packer);
        int[] due = {4, 246, 20, 0, 0, 0, 0};
        for (int i = 0; i < due.length; i++) {
            Due.is("nearest at a tie: byte " + i, rows[7 + i], due[i]);
        }
    }

    /**
     * "the least f at a tie": the greys of a picture of 2 x 2 and the filter of its second row;
     * behind it the filters that have the least sum there.
     */
    private static void leastFilterAtATie() {
        tie(0, 3, 0, 150, 0, "01");
        tie(0, 0, 3, 0, 0, "02");
        tie(10, 0, 3, 0, 0, "03");
        tie(50, 60, 40, 10, 0, "04");
        tie(60, 10, 150, 200, 1, "12");
        tie(0, 50, 10, 20, 1, "13");
        tie(0, 0, 3, 3, 1, "14");
        tie(0, 10, 50, 20, 2, "23");
        tie(0, 3, 0, 10, 2, "24");
        tie(3, 20, 128, 100, 3, "34");
        tie(30, 120, 150, 128, 1, "123");
        tie(0, 0, 40, 30, 1, "134");
        tie(0, 40, 0, 30, 2, "234");
        tie(0, 3, 3, 3, 1, "1234");
        tie(0, 0, 0, 3, 0, "01234");
        tie(0, 0, 0, 0, 0, "01234");
        // And without a tie each filter is the one.
        tie(0, 3, 3, 0, 0, "0");
        tie(0, 10, 3, 3, 1, "1");
        tie(0, 3, 10, 3, 2, "2");
        tie(0, 0, 10, 3, 3, "3");
        tie(3, 0, 10, 10, 4, "4");
    }

    private static void tie(int corner, int above, int left, int last, int due, String tied) {
        Careful packer = Paint.greys(new int[][] {{corner, above}, {left, last}});
        packer.put();
        Due.is("filter(1) of " + corner + " " + above + " " + left + " " + last + ", where the filters " + tied
            + " have the least sum", packer.filter(1), due);
    }

    /**
     * "a byte v counting the lesser of v and 256 - v": behind a 1 filter 0 leaves v, filter 1
     * makes v - 1 of it, and 128 is where the one that counts less changes.
     */
    private static void lesserOfTheTwo() {
        secondPixel(64, 128, 1);
        secondPixel(1, 127, 1);
        secondPixel(1, 128, 1);
        secondPixel(1, 129, 0);
        secondPixel(1, 130, 0);
        secondPixel(254, 255, 0);
        secondPixel(253, 254, 1);
        secondPixel(128, 0, 0);
        secondPixel(2, 1, 3);
    }

    private static void secondPixel(int first, int second, int due) {
        Careful packer = Paint.greys(new int[][] {{first, second}});
        packer.put();
        Due.is("filter(0) of " + first + " " + second, packer.filter(0), due);
    }
}
