import java.util.Random;

/** Promises 15 to 18: draw, write, written, pass. */
public final class WriterTest {
    public static void main(String[] args) {
        draws();
        parameters();
        keyPictures();
        bytesBetweenZeros();
        wrongArguments();
        passes();
        passesIntoUnits();
        Check.finish();
    }

    private static void bytes(String what, BlockPictures x, int count, int[] want) {
        bytes(what, x, count, want, 0);
    }

    /** Looks at 200 bytes at the most: an object that was drawn on has calls left for no more. */
    private static void bytes(String what, BlockPictures x, int count, int[] want, int from) {
        Check.due(what + ": count", count, want.length);
        for (int k = from; k < want.length && k < from + 200; k++) {
            Check.due(what + ": written(" + k + ")", x.written(k), want[k]);
        }
        Check.due(what + ": written behind", x.written(want.length), -1);
        Check.due(what + ": written(-1)", x.written(-1), -1);
        Check.due(what + ": written(least)", x.written(Integer.MIN_VALUE), -1);
        Check.due(what + ": written(most)", x.written(Integer.MAX_VALUE), -1);
    }

    private static void show(BlockPictures x, int order) {
        x.write(7, 0, 0);
        x.reset();
        x.pass();
        x.write(5, order, 0);
        x.pass();
        x.end();
    }

    private static void draws() {
        BlockPictures x = new BlockPictures();
        int[][] wrong = {{-1, 0}, {256, 0}, {0, -1}, {0, 256}, {Integer.MIN_VALUE, 5}, {5, Integer.MAX_VALUE}};
        for (int[] row : wrong) {
            Check.due("draw(" + row[0] + ", " + row[1] + ")", x.draw(row[0], row[1]), false);
        }
        Check.due("draw(0, 255)", x.draw(0, 255), true);
        Check.due("draw(255, 254)", x.draw(255, 254), true);
        Check.due("draw(18, 9)", x.draw(18, 9), true);
        Check.due("draw(18, 90)", x.draw(18, 90), true);
        Check.due("draw(0, 256) again", x.draw(0, 256), false);
        Check.due("draw(40, 1)", x.draw(40, 1), true);
        Check.due("draw(40, 0)", x.draw(40, 0), true);
        show(x, 1);
        for (int i = 0; i < 256; i++) {
            int want = i == 0 ? 255 : i == 255 ? 254 : i == 18 ? 90 : 0;
            Check.due("sample(" + i + ")", x.sample(i), want);
        }
    }

    private static void parameters() {
        BlockPictures x = new BlockPictures();
        bytes("write(7, 1, 3)", x, x.write(7, 1, 3), new int[] {0, 0, 1, 39, 0x44, 0x80});
        bytes("write(7, 0, 0)", x, x.write(7, 0, 0), new int[] {0, 0, 1, 39, 0xE0});
        bytes("write(7, 3, 11)", x, x.write(7, 3, 11), new int[] {0, 0, 1, 39, 0x20, 0xC8});
        for (int a = 0; a < 4; a++) {
            x = new BlockPictures();
            for (int b = 0; b < 12; b++) {
                int[] want = UnitBits.framed(UnitBits.parameters(a + 1, b).unit(39));
                bytes("write(7, " + a + ", " + b + ")", x, x.write(7, a, b), want);
            }
        }
    }

    private static void keyPictures() {
        // Without samples: 1010 behind three zeros, 1, then zeros up to the last bit.
        BlockPictures x = new BlockPictures();
        int[] want = new int[5 + 260 + 129 + 1];
        want[2] = 1;
        want[3] = 101;
        want[4] = 0x15;
        for (int k = 7; k < want.length - 1; k += 3) {
            want[k] = 3;
        }
        want[want.length - 1] = 0x80;
        bytes("write(5, 9, 0)", x, x.write(5, 9, 0), want, 0);
        bytes("write(5, 9, 0)", x, x.write(5, 9, 0), want, 200);
        x = new BlockPictures();
        bytes("b is not looked at", x, x.write(5, 9, Integer.MIN_VALUE), want, 0);
        bytes("b is not looked at", x, x.write(5, 9, Integer.MAX_VALUE), want, 200);
        int[] orders = {0, 1, 2, 126, 127, 128, 254, 255};
        for (int order : orders) {
            int[] samples = new int[256];
            for (int i = 0; i < 256; i++) {
                samples[i] = (i * 37 + order) % 256;
            }
            for (int from = 0; from < 400; from += 200) {
                BlockPictures y = drawn(samples);
                bytes("write(5, " + order + ", 1)", y, y.write(5, order, 1), expected(samples, order), from);
            }
            decoded(samples, order, 0);
            decoded(samples, order, 128);
        }
    }

    private static BlockPictures drawn(int[] samples) {
        BlockPictures x = new BlockPictures();
        for (int i = 0; i < 256; i++) {
            x.draw(i, samples[i]);
        }
        return x;
    }

    /** Looks at half of the samples that a picture written and passed has. */
    private static void decoded(int[] samples, int order, int from) {
        BlockPictures x = drawn(samples);
        show(x, order);
        for (int i = from; i < from + 128; i++) {
            Check.due("sample(" + i + ") of order " + order, x.sample(i), samples[i]);
        }
        Check.due("order(0)", x.order(0), order);
    }

    private static int[] expected(int[] samples, int order) {
        UnitBits bits = UnitBits.key(order, 0);
        for (int n = 0; n < 16; n++) {
            bits.raw("00");
            for (int k = 0; k < 16; k++) {
                bits.bits(samples[16 * (4 * (n / 4) + k / 4) + 4 * (n % 4) + k % 4], 8);
            }
        }
        return UnitBits.framed(bits.unit(101));
    }

    private static void bytesBetweenZeros() {
        Random random = new Random(5);
        int[] values = {0, 0, 0, 0, 0, 0, 1, 2, 3, 4, 16, 32, 48, 64, 128, 192, 255};
        for (int round = 0; round < 300; round++) {
            int[] samples = new int[256];
            for (int i = 0; i < 256; i++) {
                samples[i] = values[random.nextInt(values.length)];
            }
            int order = random.nextInt(256);
            int[] want = expected(samples, order);
            for (int from = 0; from < 400; from += 200) {
                BlockPictures x = drawn(samples);
                bytes("round " + round, x, x.write(5, order, round), want, from);
            }
            for (int k = 3; k < want.length; k++) {
                boolean behindZeros = want[k - 1] == 0 && want[k - 2] == 0;
                Check.due("a mark at " + k, behindZeros && want[k] < 3, false);
            }
        }
    }

    private static void wrongArguments() {
        BlockPictures x = new BlockPictures();
        Check.due("write(7, 4, 0) first", x.write(7, 4, 0), -1);
        Check.due("nothing is written", x.written(0), -1);
        x.write(7, 1, 3);
        int[][] wrong = {{7, -1, 0}, {7, 4, 0}, {7, 0, -1}, {7, 0, 12}, {5, -1, 0}, {5, 256, 0}, {0, 0, 0}, {1, 0, 0},
            {6, 0, 0}, {39, 0, 0}, {101, 0, 0}, {-5, 0, 0}, {7, Integer.MIN_VALUE, 0}, {7, 0, Integer.MAX_VALUE},
            {5, Integer.MAX_VALUE, 0}};
        for (int[] row : wrong) {
            String what = "write(" + row[0] + ", " + row[1] + ", " + row[2] + ")";
            bytes(what, x, x.write(row[0], row[1], row[2]) == -1 ? 6 : 0, new int[] {0, 0, 1, 39, 0x44, 0x80});
        }
    }

    private static void passes() {
        BlockPictures x = new BlockPictures();
        Check.due("pass() with nothing written", x.pass(), 0);
        x.write(7, 0, 0);
        Check.due("pass() begins a unit", x.pass(), 0);
        Check.due("pass() again ends it", x.pass(), 1);
        Check.due("units()", x.units(), 1);
        x.write(5, 3, 0);
        Check.due("pass() ends the second one", x.pass(), 1);
        Check.due("end() shows", x.end(), 1);
        Check.due("units()", x.units(), 3);
        x.pass();
        Check.due("pass() ends one with a fault", x.pass(), 1);
        Check.due("fault()", x.fault(), 7);
        Check.due("pass() when stopped", x.pass(), 0);
        x.reset();
        Check.due("pass() after reset()", x.pass(), 0);
        Check.due("the written bytes stay", x.written(3), 101);
    }

    private static void passesIntoUnits() {
        // What is fed before has its part: one zero more ends the unit before the start code.
        BlockPictures x = new BlockPictures();
        x.write(7, 2, 2);
        UnitBits.feed(x, 0, 0, 1, 8, 0);
        Check.due("behind a zero", x.pass(), 1);
        UnitBits.feed(x, 0, 0);
        Check.due("behind two zeros", x.pass(), 1);
        Check.due("fault()", x.fault(), 0);
        Check.due("units()", x.units(), 2);
        // A unit that grows too long stops pass() on its way.
        x = new BlockPictures();
        UnitBits.feed(x, 0, 0, 1);
        for (int k = 0; k < 319; k++) {
            UnitBits.feed(x, 8);
        }
        x.write(7, 0, 0);
        Check.due("too long", x.pass(), 0);
        Check.due("fault()", x.fault(), 3);
        Check.due("units()", x.units(), 0);
    }
}
