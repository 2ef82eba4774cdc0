/** Promise 8. */
public final class CountTest {
    private static final int[] OTHERS = {Integer.MIN_VALUE, -2, -1, 6, 7, 100, Integer.MAX_VALUE};

    public static void main(String[] args) {
        everyCount();
        longestOrNone();
        longestOfSeveral();
        Due.end();
    }

    /** Each what, and "NONE for another what", before a file and behind two. */
    private static void everyCount() {
        Careful packer = new Careful(48, 2);
        counts("before a file", packer, new int[] {0, 0, 0, 0, 48, 2});
        packer.fill(0, 0, 47, 0xFF0000);
        packer.fill(1, 0, 47, 255);
        packer.fill(1, 40, 99, 0xFF00);
        counts("still before a file", packer, new int[] {0, 0, 0, 0, 48, 2});
        packer.put();
        counts("with runs", packer, new int[] {81, 7, 4, 142, 48, 2});
        packer.fill(0, 0, 47, 0);
        packer.fill(1, 0, 47, 0);
        counts("painted since", packer, new int[] {81, 7, 4, 142, 48, 2});
        packer.put();
        // 290 zeros: one by itself, a run of 258 and one of 31.
        counts("black", packer, new int[] {69, 1, 2, 258, 48, 2});
    }

    private static void counts(String name, Careful packer, int[] due) {
        for (int what = 0; what < due.length; what++) {
            Due.is(name + ": count(" + what + ")", packer.count(what), due[what]);
        }
        for (int what : OTHERS) {
            Due.is(name + ": count(" + what + ")", packer.count(what), -1);
        }
    }

    /** "the longest of them, 0 without one": also in a file without a run behind one with a run. */
    private static void longestOrNone() {
        Careful packer = new Careful(1, 1);
        packer.put();
        Due.is("0 and 0 0 0: bytes", packer.count(1), 1);
        Due.is("0 and 0 0 0: runs", packer.count(2), 1);
        Due.is("0 and 0 0 0: the longest", packer.count(3), 3);
        packer.set(0, 0, 1);
        packer.put();
        Due.is("0 and 0 0 1: bytes", packer.count(1), 4);
        Due.is("0 and 0 0 1: runs", packer.count(2), 0);
        Due.is("0 and 0 0 1: the longest", packer.count(3), 0);
    }

    /** "the longest of them": not the first, the last or the sum of them. */
    private static void longestOfSeveral() {
        int[] bytes = {0, 9, 5, 7, 255, 0, 9, 5, 254, 0, 9, 5, 7, 253, 9, 5, 7, 252, 3};
        Careful packer = Paint.rowBytes("runs of 3, 4 and 3", 6, 1, bytes);
        Due.is("runs of 3, 4 and 3", new Reader(packer).text(), "0 9 5 7 255 3<5 254 4<9 253 3<4 252 3");
        Due.is("bytes beside runs of 3, 4 and 3", packer.count(1), 9);
        Due.is("how many of 3, 4 and 3", packer.count(2), 3);
        Due.is("the longest of 3, 4 and 3", packer.count(3), 4);
    }
}
