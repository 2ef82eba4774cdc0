/** Promise 8. */
public final class CountTest {
    private static final int[] OTHERS = {Integer.MIN_VALUE, -2, -1, 6, 7, 100, Integer.MAX_VALUE};

    public static void main(String[] args) {
        PicturePacker packer = new PicturePacker(48, 2);
        counts("before a file", packer, new int[] {0, 0, 0, 0, 48, 2});
        packer.fill(0, 0, 47, 0xFF0000);
        packer.fill(1, 0, 47, 255);
        packer.fill(1, 40, 99, 0xFF00);
        counts("still before a file", packer, new int[] {0, 0, 0, 0, 48, 2});
        packer.put();
        counts("with runs", packer, new int[] {81, 7, 4, 142, 48, 2});
        packer.fill(0, 0, 47, 0);
        packer.fill(1, 0, 47, 0);
        counts("painted since", packer, new int[] {81, 7, 4, 142, 48, 2});
        packer.put();
        // 290 zeros: one by itself, a run of 258 and one of 31.
        Due.is("black: bytes", packer.count(1), 1);
        Due.is("black: runs", packer.count(2), 2);
        Due.is("black: the longest", packer.count(3), 258);
        shortRuns();
        Due.end();
    }

    private static void counts(String name, PicturePacker packer, int[] due) {
        for (int what = 0; what < due.length; what++) {
            Due.is(name + ": count(" + what + ")", packer.count(what), due[what]);
        }
        for (int what : OTHERS) {
            Due.is(name + ": count(" + what + ")", packer.count(what), -1);
        }
    }

    /** A run's count and length start anew with each file; 3 equal bytes are a run, 2 are none. */
    private static void shortRuns() {
        PicturePacker packer = new PicturePacker(1, 1);
        packer.put();
        Due.is("0 and 0 0 0: bytes", packer.count(1), 1);
        Due.is("0 and 0 0 0: runs", packer.count(2), 1);
        Due.is("0 and 0 0 0: the longest", packer.count(3), 3);
        packer.set(0, 0, 1);
        packer.put();
        Due.is("0 and 0 0 1: bytes", packer.count(1), 4);
        Due.is("0 and 0 0 1: runs", packer.count(2), 0);
        Due.is("0 and 0 0 1: the longest", packer.count(3), 0);
    }
}
