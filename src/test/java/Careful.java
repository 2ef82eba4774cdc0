import java.util.ArrayList;
import java.util.List;

/**
 * An object that no test can use for more than 512 calls, since what later calls answer is free.
 * When they are used up, a new object takes its place, on which all calls that may change
 * something, refused ones too, are made again.
 */
final class Careful {
    static final int CALLS = 512;

    private final int width;
    private final int height;
    private final List<int[]> changes = new ArrayList<>();
    private PicturePacker packer;
    private int calls;

    Careful(int width, int height) {
        this.width = width;
        this.height = height;
        packer = new PicturePacker(width, height);
    }

    boolean set(int x, int y, int colour) {
        return change(x, y, colour) == 1;
    }

    int fill(int y, int from, int to, int colour) {
        return change(y, from, to, colour);
    }

    int put() {
        return change();
    }

    int pixel(int x, int y) {
        return nextCall().pixel(x, y);
    }

    int byteAt(int k) {
        return nextCall().byteAt(k);
    }

    int filter(int y) {
        return nextCall().filter(y);
    }

    int count(int what) {
        return nextCall().count(what);
    }

    private int change(int... given) {
        int answer = changed(nextCall(), given);
        changes.add(given);
        return answer;
    }

    /** How many numbers are given tells which call it is. */
    private static int changed(PicturePacker packer, int[] given) {
        switch (given.length) {
            case 0:
                return packer.put();
            case 3:
                return packer.set(given[0], given[1], given[2]) ? 1 : 0;
            default:
                return packer.fill(given[0], given[1], given[2], given[3]);
        }
    }

    private PicturePacker nextCall() {
        if (calls == CALLS) {
            packer = new PicturePacker(width, height);
            for (int[] given : changes) {
                changed(packer, given);
            }
            calls = changes.size();
        }
        if (calls >= CALLS) {
            throw new IllegalStateException("a test's picture takes more than 512 calls");
        }
        calls++;
        return packer;
    }
}
