import java.util.Random;

/** Runs of up to 512 mixed calls, with places and numbers on, near and far beyond the edges. */
public final class RandomRunsTest {
    private static final int[] FAR = {Integer.MIN_VALUE, Integer.MIN_VALUE + 1, -1000, 1000, Integer.MAX_VALUE - 1,
        Integer.MAX_VALUE};

    public static void main(String[] args) {
        for (int seed = 0; seed < 150; seed++) {
            run(new Random(seed), seed);
        }
        Due.end();
    }

    private static void run(Random random, int seed) {
        Pair pair = new Pair("run " + seed, number(random, 48), number(random, 48));
        int colours = 1 + random.nextInt(6);
        for (int call = 0; call < 512; call++) {
            call(pair, random, colours);
        }
    }

    private static void call(Pair pair, Random random, int colours) {
        int x = number(random, pair.plain.width);
        int y = number(random, pair.plain.height);
        int colour = random.nextInt(8) == 0 ? random.nextInt() : random.nextInt(colours) * 0x213141;
        switch (random.nextInt(28)) {
            case 0:
                Due.is("put()", pair.real.put(), pair.plain.put());
                break;
            case 1, 2, 3, 4, 5:
                pair.set(x, y, colour);
                break;
            case 6, 7, 8, 9, 10, 11:
                pair.fill(y, x, number(random, pair.plain.width), colour);
                break;
            case 12, 13, 14:
                pair.pixel(x, y);
                break;
            case 15, 16, 17:
                pair.filter(y);
                break;
            case 18, 19, 20:
                pair.count(number(random, 6));
                break;
            default:
                pair.byteAt(number(random, Math.max(60, pair.plain.file.length)));
                break;
        }
    }

    /** Mostly from -1 to the bound, which is one beyond a place's edge on either side. */
    private static int number(Random random, int bound) {
        return random.nextInt(20) == 0 ? FAR[random.nextInt(FAR.length)] : random.nextInt(bound + 2) - 1;
    }
}
