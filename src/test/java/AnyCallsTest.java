import java.util.Random;

/** Calls in any order with any arguments, up to 512 on each object: none throws, every answer is in its range. */
public final class AnyCallsTest {
    private static final int OBJECTS = 1500;
    private static final int CALLS = 460;
    private static final int[] EDGES = {Integer.MIN_VALUE, -65536, -256, -2, -1, 0, 1, 2, 3, 4, 5, 7, 8, 11, 12, 15, 16,
        255, 256, 257, 320, 400, 65536, Integer.MAX_VALUE};

    public static void main(String[] args) {
        Random random = new Random(31);
        for (int k = 0; k < OBJECTS; k++) {
            BlockPictures x = new BlockPictures();
            for (int call = 0; call < CALLS; call++) {
                call(x, random);
            }
            Check.due("fault() in range", x.fault() >= 0 && x.fault() <= 9, true);
        }
        Check.finish();
    }

    private static int any(Random random) {
        return random.nextInt(4) == 0 ? random.nextInt() : EDGES[random.nextInt(EDGES.length)];
    }

    private static void range(String what, int got, int low, int high) {
        Check.due(what + " = " + got + " in " + low + " .. " + high, got >= low && got <= high, true);
    }

    private static void call(BlockPictures x, Random random) {
        int a = any(random);
        int b = any(random);
        switch (random.nextInt(24)) {
            case 0 -> range("end", x.end(), 0, 5);
            case 1 -> {
                if (x.fault() != 0) {
                    x.reset();
                }
            }
            case 2 -> range("units", x.units(), 0, CALLS);
            case 3 -> range("shown", x.shown(), 0, CALLS);
            case 4 -> range("order", x.order(a), -1, 255);
            case 5 -> range("sample", x.sample(a), -1, 255);
            case 6 -> range("held", x.held(), 0, 4);
            case 7 -> range("heldState", x.heldState(a), -1, 1023);
            case 8 -> range("heldSample", x.heldSample(a, b), -1, 255);
            case 9 -> range("vector", x.vector(a), -1, 256 * 128 + 128);
            case 10 -> range("smoothed", x.smoothed(), 0, 96);
            case 11 -> x.draw(a, b);
            case 12 -> x.draw(random.nextInt(256), random.nextInt(256));
            case 13 -> range("write", x.write(a, b, any(random)), -1, 400);
            case 14 -> range("write", x.write(7, random.nextInt(4), random.nextInt(12)), 5, 7);
            case 15 -> range("write", x.write(5, random.nextInt(256), b), 264, 400);
            case 16 -> range("written", x.written(a), -1, 255);
            case 17, 18 -> range("pass", x.pass(), 0, 1);
            case 19 -> range("feed", x.feed(a, b), 0, 1);
            case 20 -> range("feed", x.feed(new int[] {0x101, 0x121, 0x107, 0x105}[random.nextInt(4)], 4), 0, 1);
            default -> range("feed", x.feed(random.nextInt(), 1 + random.nextInt(4)), 0, 1);
        }
    }
}
