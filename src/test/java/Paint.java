/** Pictures made for one test each. */
final class Paint {
    private Paint() {
    }

    /**
     * A picture that has been put out, whose rows have just these bytes: filter 0 must be the
     * cheapest in each row, which is looked at here. The rest of the bytes are 0.
     */
    static Careful rowBytes(String name, int width, int height, int[] first) {
        int stride = 3 * width + 1;
        int[] bytes = new int[stride * height];
        System.arraycopy(first, 0, bytes, 0, first.length);
        Careful packer = new Careful(width, height);
        for (int y = 0; y < height; y++) {
            for (int x = 0; x < width; x++) {
                int place = y * stride + 1 + 3 * x;
                int colour = bytes[place] << 16 | bytes[place + 1] << 8 | bytes[place + 2];
                if (colour != 0) {
                    packer.set(x, y, colour);
                }
            }
        }
        packer.put();
        rowsAre(name, packer, bytes);
        return packer;
    }

    /** A picture of greys, not yet put out. */
    static Careful greys(int[][] greys) {
        Careful packer = new Careful(greys[0].length, greys.length);
        for (int y = 0; y < greys.length; y++) {
            for (int x = 0; x < greys[y].length; x++) {
                packer.set(x, y, greys[y][x] * 0x010101);
            }
        }
        return packer;
    }

    /** The rows of the latest file are these; the first byte of each is its filter. */
    static void rowsAre(String name, Careful packer, int[] due) {
        int[] got = Reader.rows(packer);
        Due.is(name + ": rows' bytes", got.length, due.length);
        for (int i = 0; i < due.length && i < got.length; i++) {
            Due.is(name + ": row byte " + i, got[i], due[i]);
        }
        int stride = 3 * packer.count(4) + 1;
        for (int y = 0; y < packer.count(5); y++) {
            Due.is(name + ": filter(" + y + ")", packer.filter(y), due[y * stride]);
        }
    }
}
