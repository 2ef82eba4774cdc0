import java.util.Random;

/** "An object is used for at most 512 calls": up to the 512th every answer is as promised. */
public final class CallsTest {
    private static final int CALLS = 512;
    /**
     * 6,960 zeros are a byte of 8 bits, 26 runs of 258 of 13 bits each and one of 251 of 18; with
     * the first 3 bits and the last 7 these are 47 bytes, and 63 are round them.
     */
    private static final int BLACK_FILE = 110;
    private static final int[] FAR = {Integer.MIN_VALUE, -1, 48, Integer.MAX_VALUE};

    public static void main(String[] args) {
        onlySets();
        onlyFills();
        onlyPuts();
        setsAndPuts();
        refusedCalls();
        lastCallPuts();
        lastCallAsksForAByte();
        lastCallAsksForTheRest();
        Due.end();
    }

    private static void onlySets() {
        PicturePacker packer = new PicturePacker(48, 48);
        for (int call = 0; call < CALLS; call++) {
            Due.is("set as call " + call, packer.set(call % 48, call / 48, -1 - call), true);
        }
    }

    private static void onlyFills() {
        PicturePacker packer = new PicturePacker(48, 48);
        for (int call = 0; call < CALLS; call++) {
            Due.is("fill as call " + call, packer.fill(call % 48, call % 48, Integer.MAX_VALUE, call),
                48 - call % 48);
        }
    }

    /** The largest picture, with noise all over and with the calls that are left, and all black. */
    private static void onlyPuts() {
        PlainPacker plain = new PlainPacker(48, 48);
        PicturePacker packer = new PicturePacker(48, 48);
        Random random = new Random(11);
        int painted = 0;
        for (int y = 0; y < 48; y++) {
            for (int x = 0; x < 6; x++) {
                int colour = random.nextInt();
                packer.set(8 * x, y, colour);
                plain.set(8 * x, y, colour);
                painted++;
            }
        }
        int due = plain.put();
        for (int call = painted; call < CALLS; call++) {
            Due.is("put as call " + call, packer.put(), due);
        }
        PicturePacker black = new PicturePacker(48, 48);
        for (int call = 0; call < CALLS; call++) {
            Due.is("put of black as call " + call, black.put(), BLACK_FILE);
        }
    }

    private static void setsAndPuts() {
        PlainPacker plain = new PlainPacker(16, 16);
        PicturePacker packer = new PicturePacker(16, 16);
        Random random = new Random(12);
        for (int call = 0; call < CALLS; call += 2) {
            int colour = random.nextInt();
            int place = random.nextInt(256);
            plain.set(place % 16, place / 16, colour);
            Due.is("set as call " + call, packer.set(place % 16, place / 16, colour), true);
            Due.is("put as call " + (call + 1), packer.put(), plain.put());
        }
    }

    /** Refused calls are calls too, and change nothing. */
    private static void refusedCalls() {
        PicturePacker packer = new PicturePacker(48, 48);
        packer.put();
        for (int call = 1; call < CALLS - 7; call += 7) {
            int far = FAR[call % 4];
            Due.is("set(far) as call " + call, packer.set(far, 0, 1), false);
            Due.is("fill(far) as call " + call, packer.fill(far, Integer.MIN_VALUE, Integer.MAX_VALUE, 1), 0);
            Due.is("pixel(far) as call " + call, packer.pixel(0, far), -1);
            Due.is("byteAt(far) as call " + call, packer.byteAt(far < 0 ? far : Integer.MAX_VALUE), -1);
            Due.is("filter(far) as call " + call, packer.filter(far), -1);
            Due.is("count(far) as call " + call, packer.count(far), -1);
            Due.is("pixel(0, 0) as call " + call, packer.pixel(0, 0), 0);
        }
        Due.is("put behind them", packer.put(), BLACK_FILE);
    }

    private static void lastCallPuts() {
        PlainPacker plain = new PlainPacker(48, 48);
        PicturePacker packer = painted(CALLS - 1, plain);
        Due.is("put as the last call", packer.put(), plain.put());
    }

    /** The file is put out by the call before; one object for each byte, since each call counts. */
    private static void lastCallAsksForAByte() {
        PlainPacker plain = new PlainPacker(16, 16);
        painted(CALLS - 2, plain);
        plain.put();
        for (int k = -1; k <= plain.file.length; k++) {
            Due.is("byteAt(" + k + ") as the last call", beforeTheLast(16).byteAt(k), plain.byteAt(k));
        }
    }

    private static void lastCallAsksForTheRest() {
        PlainPacker plain = new PlainPacker(48, 48);
        painted(CALLS - 2, plain);
        plain.put();
        for (int n = -1; n <= 48; n++) {
            boolean there = n >= 0 && n < 48;
            Due.is("filter(" + n + ") as the last call", beforeTheLast(48).filter(n), plain.filter(n));
            Due.is("count(" + n + ") as the last call", beforeTheLast(48).count(n), plain.count(n));
            Due.is("pixel(" + n + ", 7) as the last call", beforeTheLast(48).pixel(n, 7), plain.pixel(n, 7));
            Due.is("set(" + n + ", 7) as the last call", beforeTheLast(48).set(n, 7, 5), there);
            Due.is("fill(" + n + ") as the last call", beforeTheLast(48).fill(n, 1, 99, 5), there ? 47 : 0);
        }
    }

    /** An object that has had all its calls but one, the latest of which was a put. */
    private static PicturePacker beforeTheLast(int side) {
        PicturePacker packer = painted(CALLS - 2, new PlainPacker(side, side));
        packer.put();
        return packer;
    }

    /** So many sets, all over the picture, made on a new object and on the plain one. */
    private static PicturePacker painted(int calls, PlainPacker plain) {
        PicturePacker packer = new PicturePacker(plain.width, plain.height);
        for (int call = 0; call < calls; call++) {
            int place = call * 1001 % (plain.width * plain.height);
            int colour = call * 0x9E3779B9;
            packer.set(place % plain.width, place / plain.width, colour);
            plain.set(place % plain.width, place / plain.width, colour);
        }
        return packer;
    }
}
