/** Promise 2. */
public final class SetTest {
    private static final int[] OUTSIDE = {Integer.MIN_VALUE, -48, -1, 48, 49, 1000, Integer.MAX_VALUE};

    public static void main(String[] args) {
        colours();
        redHighest();
        corners();
        wrongPlaces();
        refusedAtEveryEdge();
        onlyThatPixel();
        Due.end();
    }

    /** "a colour, the lowest 24 bits of it". */
    private static void colours() {
        int[] given = {0, 1, 255, 256, 0x010203, 0xFFFFFF, 0x1000000, 0x7F123456, -1, Integer.MIN_VALUE,
            Integer.MIN_VALUE + 7, Integer.MAX_VALUE, 0xFF808080};
        int[] kept = {0, 1, 255, 256, 0x010203, 0xFFFFFF, 0, 0x123456, 0xFFFFFF, 0, 7, 0xFFFFFF, 0x808080};
        Careful packer = new Careful(3, 3);
        for (int i = 0; i < given.length; i++) {
            Due.is("set(1, 2, " + given[i] + ")", packer.set(1, 2, given[i]), true);
            Due.is("pixel behind set " + given[i], packer.pixel(1, 2), kept[i]);
        }
    }

    /** "red highest": the bytes of a lone pixel stand in its row as they are. */
    private static void redHighest() {
        int[] colours = {0x010203, 0xFF000000, 0x7F010203, -1, Integer.MIN_VALUE, Integer.MAX_VALUE, 0xFFFE0100};
        int[][] due = {{1, 2, 3}, {0, 0, 0}, {1, 2, 3}, {255, 255, 255}, {0, 0, 0}, {255, 255, 255}, {254, 1, 0}};
        for (int i = 0; i < colours.length; i++) {
            Careful packer = new Careful(1, 1);
            packer.set(0, 0, colours[i]);
            packer.put();
            Paint.rowsAre("colour " + colours[i], packer, new int[] {0, due[i][0], due[i][1], due[i][2]});
        }
    }

    /** "true": in the first and the last column and row. */
    private static void corners() {
        Pair pair = new Pair("corners", 48, 48);
        pair.set(0, 0, 1);
        pair.set(47, 0, 2);
        pair.set(0, 47, 3);
        pair.set(47, 47, 4);
        pair.pixels();
    }

    /** "false if there is none such"; nothing has changed then. */
    private static void wrongPlaces() {
        for (int out : OUTSIDE) {
            Pair pair = new Pair("wrong places", 48, 48);
            for (int in = 0; in < 48; in++) {
                Due.is("set(" + out + ", " + in + ")", pair.real.set(out, in, 9), false);
                Due.is("set(" + in + ", " + out + ")", pair.real.set(in, out, 9), false);
            }
            Due.is("set(" + out + " twice)", pair.real.set(out, out, 9), false);
            pair.pixels();
        }
    }

    /** The same in pictures of other sides, the smallest among them, with each colour at the edge. */
    private static void refusedAtEveryEdge() {
        int[][] sides = {{1, 1}, {1, 48}, {48, 1}, {7, 5}};
        int[] colours = {Integer.MIN_VALUE, -1, 0xFFFFFF, Integer.MAX_VALUE};
        for (int[] side : sides) {
            Pair pair = new Pair("refused", side[0], side[1]);
            int[] wrongX = {Integer.MIN_VALUE, -1, side[0], side[0] + 1, Integer.MAX_VALUE};
            int[] wrongY = {Integer.MIN_VALUE, -1, side[1], side[1] + 1, Integer.MAX_VALUE};
            for (int colour : colours) {
                for (int x : wrongX) {
                    for (int y : wrongY) {
                        Due.is("set(" + x + ", " + y + ")", pair.real.set(x, y, colour), false);
                    }
                    Due.is("set(" + x + ", 0)", pair.real.set(x, 0, colour), false);
                    Due.is("set(" + x + ", last)", pair.real.set(x, side[1] - 1, colour), false);
                }
                for (int y : wrongY) {
                    Due.is("set(0, " + y + ")", pair.real.set(0, y, colour), false);
                    Due.is("set(last, " + y + ")", pair.real.set(side[0] - 1, y, colour), false);
                }
            }
            pair.pixels();
            pair.put();
        }
    }

    private static void onlyThatPixel() {
        for (int y = 0; y < 4; y++) {
            for (int x = 0; x < 5; x++) {
                Pair pair = new Pair("only that pixel", 5, 4);
                pair.set(x, y, 0xABCDEF);
                pair.pixels();
            }
        }
        Pair narrow = new Pair("not square", 3, 7);
        narrow.set(5, 1, 8);
        narrow.set(1, 5, 8);
        narrow.pixels();
    }
}
