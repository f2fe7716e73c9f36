import java.util.Arrays;
import java.util.function.Supplier;

/** The boundary cases of the promises 15 to 18: draw, write, written, pass. */
public final class WriterBoundsTest {
    public static void main(String[] args) {
        draw();
        drawRefused();
        kinds();
        parameterNumbers();
        keyOrders();
        inPlaceOfFormerOnes();
        byteThreeBehindTwoZeros();
        zerosBeginAnew();
        lastByte();
        bitBehindTheData();
        bNotLookedAt();
        written();
        passNothingWritten();
        passStopped();
        passAnswers();
        passStoppedOnItsWay();
        Check.finish();
    }

    private static void draw() {
        Check.sentence("Sample i of the source becomes v: true");
        for (int i : new int[] {0, 1, 15, 16, 128, 254, 255}) {
            // 4 and more beside 0 is a step that no edge smooths with q = 0.
            for (int v : new int[] {255, 254, 4, 0}) {
                BlockPictures x = new BlockPictures();
                Check.due("draw(" + i + ", " + v + ")", x.draw(i, v), true);
                x.write(7, 0, 0);
                x.pass();
                x.write(5, 9, 0);
                x.pass();
                Check.due("end()", x.end(), 1);
                Check.due("sample(" + i + ")", x.sample(i), v);
                Check.due("another sample", x.sample(i == 100 ? 101 : 100), 0);
            }
        }
        BlockPictures x = States.stopped();
        Check.due("draw(0, 0) when stopped", x.draw(0, 0), true);
    }

    private static void drawRefused() {
        Check.sentence("false, changing nothing, when i is not 0 .. 255 or v is not 0 .. 255");
        int[] wrong = {-1, 256, -256, 257, 511, 65536, Integer.MIN_VALUE, Integer.MAX_VALUE};
        for (Supplier<BlockPictures> state : States.all().values()) {
            for (int value : wrong) {
                Check.due("draw(" + value + ", 5)", state.get().draw(value, 5), false);
                Check.due("draw(5, " + value + ")", state.get().draw(5, value), false);
                Check.due("draw of both", state.get().draw(value, value), false);
                Twins.unchanged("draw(" + value + ", 5)", state, x -> x.draw(value, 5));
                Twins.unchanged("draw(5, " + value + ")", state, x -> x.draw(5, value));
            }
        }
        // Every sample stays, the whole row of written bytes tells.
        BlockPictures x = new BlockPictures();
        int count = x.write(5, 9, 0);
        for (int value : wrong) {
            x.draw(value, 255);
            x.draw(255, value);
            x.draw(0, value);
        }
        Check.due("as long as before", x.write(5, 9, 0), count);
    }

    private static void refused(Supplier<BlockPictures> state, int kind, int a, int b) {
        String what = "write(" + kind + ", " + a + ", " + b + ")";
        Check.due(what, state.get().write(kind, a, b), -1);
        Twins.unchanged(what, state, x -> x.write(kind, a, b));
    }

    private static void kinds() {
        Check.sentence("NONE, changing nothing, when the kind is not as said");
        Check.due("write(5, 0, 0)", new BlockPictures().write(5, 0, 0) > 0, true);
        Check.due("write(7, 0, 0)", new BlockPictures().write(7, 0, 0) > 0, true);
        for (Supplier<BlockPictures> state : States.all().values()) {
            for (int kind : new int[] {0, 1, 2, 3, 4, 6, 8, 15, 39, 101, -1, -5, -7, 261, 263, Integer.MIN_VALUE, Integer.MAX_VALUE}) {
                refused(state, kind, 0, 0);
            }
        }
    }

    private static void parameterNumbers() {
        Check.sentence("Kind 7: byte 0 is 39, parameters with the numbers a (0 .. 3) and b (0 .. 11)");
        for (int a = 0; a <= 3; a++) {
            for (int b = 0; b <= 11; b++) {
                row("write(7, " + a + ", " + b + ")", new BlockPictures(), 7, a, b, UnitBits.parameters(a + 1, b).unit(39));
            }
        }
        for (Supplier<BlockPictures> state : States.all().values()) {
            for (int wrong : new int[] {-1, 4, 5, 256, Integer.MIN_VALUE, Integer.MAX_VALUE}) {
                refused(state, 7, wrong, 0);
            }
            for (int wrong : new int[] {-1, 12, 13, 256, Integer.MIN_VALUE, Integer.MAX_VALUE}) {
                refused(state, 7, 0, wrong);
            }
            refused(state, 7, -1, -1);
            refused(state, 7, 4, 12);
        }
    }

    private static void keyOrders() {
        Check.sentence("Kind 5: byte 0 is 101, a key picture of order a (0 .. 255), d = 0");
        for (int order : new int[] {0, 1, 2, 3, 6, 7, 14, 15, 62, 63, 126, 127, 254, 255}) {
            UnitBits due = UnitBits.key(order, 0).blocks((x, y) -> 0);
            row("write(5, " + order + ", 0)", new BlockPictures(), 5, order, 0, due.unit(101));
        }
        for (Supplier<BlockPictures> state : States.all().values()) {
            for (int wrong : new int[] {-1, 256, 257, -256, 512, Integer.MIN_VALUE, Integer.MAX_VALUE}) {
                refused(state, 5, wrong, 0);
            }
        }
    }

    /** Writes and compares all bytes with the unit's, framed. */
    private static void row(String what, BlockPictures x, int kind, int a, int b, int[] unit) {
        int[] due = UnitBits.framed(unit);
        Check.due(what, x.write(kind, a, b), due.length);
        for (int k = 0; k < due.length; k++) {
            Check.due(what + ", written(" + k + ")", x.written(k), due[k]);
        }
        Check.due(what + ", written behind", x.written(due.length), -1);
    }

    private static void inPlaceOfFormerOnes() {
        Check.sentence("Writes a unit in place of the bytes written before, and answers how many bytes there are");
        BlockPictures x = new BlockPictures();
        x.write(5, 9, 0);
        Check.due("a shorter one", x.write(7, 0, 0), 5);
        Check.due("written(4)", x.written(4), 0xE0);
        Check.due("written(5)", x.written(5), -1);
        row("a longer one", x, 5, 9, 0, UnitBits.key(9, 0).blocks((c, r) -> 0).unit(101));
        Check.due("written behind a shorter one", x.write(7, 3, 11), 6);
        Check.due("written(6)", x.written(6), -1);
    }

    /**
     * With order 9 the unit's bytes are 101, 0x15, 00 and the samples: so many zero bytes, the value, and then
     * bytes far above 3.
     */
    private static BlockPictures zerosAndAByte(int zeros, int value) {
        BlockPictures x = new BlockPictures();
        for (int i = 0; i < 256; i++) {
            int k = i / 16 < 4 && i % 16 < 4 ? i / 16 * 4 + i % 16 : 16;
            x.draw(i, k < zeros ? 0 : k == zeros ? 4 * value : 255);
        }
        x.write(5, 9, 0);
        return x;
    }

    private static void bytesFrom5(String what, BlockPictures x, int... due) {
        for (int k = 0; k < due.length; k++) {
            Check.due(what + ", written(" + (5 + k) + ")", x.written(5 + k), due[k]);
        }
    }

    private static void byteThreeBehindTwoZeros() {
        Check.sentence("with a byte 3 put before every byte 0 .. 3 that would else stand directly behind two zero bytes");
        bytesFrom5("0, 0, 0", zerosAndAByte(2, 0), 0, 0, 3, 0, 63, 255);
        bytesFrom5("0, 0, 1", zerosAndAByte(2, 1), 0, 0, 3, 1, 63, 255);
        bytesFrom5("0, 0, 2", zerosAndAByte(2, 2), 0, 0, 3, 2, 63, 255);
        bytesFrom5("0, 0, 3", zerosAndAByte(2, 3), 0, 0, 3, 3, 63, 255);
        bytesFrom5("0, 0, 4", zerosAndAByte(2, 4), 0, 0, 4, 63, 255);
        bytesFrom5("0, 0, 5", zerosAndAByte(2, 5), 0, 0, 5, 63, 255);
        for (int value = 0; value <= 4; value++) {
            bytesFrom5("one zero, " + value, zerosAndAByte(1, value), 0, value, 63, 255);
            bytesFrom5("no zero, " + value, zerosAndAByte(0, value), value, 63, 255);
        }
    }

    private static void zerosBeginAnew() {
        Check.sentence("(a byte 3 that was put in is one more byte between, so a row of zeros begins anew behind it)");
        bytesFrom5("three zeros, 1", zerosAndAByte(3, 1), 0, 0, 3, 0, 1, 63, 255);
        bytesFrom5("four zeros, 1", zerosAndAByte(4, 1), 0, 0, 3, 0, 0, 3, 1, 63, 255);
        bytesFrom5("four zeros, 4", zerosAndAByte(4, 4), 0, 0, 3, 0, 0, 4, 63, 255);
        bytesFrom5("five zeros, 3", zerosAndAByte(5, 3), 0, 0, 3, 0, 0, 3, 0, 3, 63, 255);
        bytesFrom5("six zeros, 3", zerosAndAByte(6, 3), 0, 0, 3, 0, 0, 3, 0, 0, 3, 3, 63, 255);
        bytesFrom5("seven zeros, 0", zerosAndAByte(7, 0), 0, 0, 3, 0, 0, 3, 0, 0, 3, 0, 0, 63, 255);
    }

    private static void lastByte() {
        Check.sentence("every byte (the unit's last one, too)");
        // Of order 3 the data end six bits into the last byte, which is 2 when the last samples are 0.
        BlockPictures x = new BlockPictures();
        int count = x.write(5, 3, 0);
        // 0, 0, 1, 101, 0x24, 259 zeros with a 3 before every other one from the third on, 2 behind one zero.
        Check.due("write(5, 3, 0)", count, 5 + 259 + 129 + 1);
        Check.due("the last byte", x.written(count - 1), 2);
        Check.due("a zero before it", x.written(count - 2), 0);
        Check.due("a 3 before that", x.written(count - 3), 3);
        // 255 in place of the first zero: 258 zeros, 2 behind two of them.
        x.draw(0, 255);
        count = x.write(5, 3, 0);
        Check.due("write(5, 3, 0)", count, 6 + 258 + 128 + 2);
        Check.due("the last byte", x.written(count - 1), 2);
        Check.due("a 3 before it", x.written(count - 2), 3);
        Check.due("a zero before that", x.written(count - 3), 0);
        Check.due("and another", x.written(count - 4), 0);
        x.write(7, 0, 0);
        x.pass();
        x.write(5, 3, 0);
        x.pass();
        Check.due("it can be read", x.end(), 1);
    }

    private static void bitBehindTheData() {
        Check.sentence("The data are followed by a bit 1 and zero bits up to the end of the byte");
        // Two bits of data, six, eight (the bit has a byte of its own), ten, twelve.
        int[][] rows = {{0, 0, 0xE0}, {1, 1, 0x4A}, {3, 1, 0x22, 0x80}, {3, 3, 0x21, 0x20}, {3, 7, 0x20, 0x88}, {0, 7, 0x88, 0x80}};
        for (int[] row : rows) {
            BlockPictures x = new BlockPictures();
            int[] unit = Arrays.copyOfRange(row, 2, row.length);
            Check.due("write(7, " + row[0] + ", " + row[1] + ")", x.write(7, row[0], row[1]), 4 + unit.length);
            Check.due("written(3)", x.written(3), 39);
            for (int k = 0; k < unit.length; k++) {
                Check.due("write(7, " + row[0] + ", " + row[1] + "), data byte " + k, x.written(4 + k), unit[k]);
            }
        }
        // A key picture of order 7 has 8 + 2080 bits, one of order 0 2 + 2080.
        BlockPictures x = new BlockPictures();
        for (int i = 0; i < 256; i++) {
            x.draw(i, 255);
        }
        int count = x.write(5, 7, 0);
        Check.due("write(5, 7, 0)", count, 3 + 1 + 261 + 1);
        Check.due("a byte of its own", x.written(count - 1), 0x80);
        Check.due("the last samples", x.written(count - 2), 0xFF);
        count = x.write(5, 0, 0);
        Check.due("write(5, 0, 0)", count, 3 + 1 + 261);
        Check.due("two bits, the bit, zeros", x.written(count - 1), 0xE0);
    }

    private static void bNotLookedAt() {
        Check.sentence("b is not looked at");
        for (int b : new int[] {-1, 0, 11, 12, 256, Integer.MIN_VALUE, Integer.MAX_VALUE}) {
            row("write(5, 200, " + b + ")", new BlockPictures(), 5, 200, b, UnitBits.key(200, 0).blocks((x, y) -> 0).unit(101));
        }
    }

    private static void written() {
        Check.sentence("NONE when there are not so many or k is below 0");
        BlockPictures x = new BlockPictures();
        for (int k : new int[] {-1, 0, 1, Integer.MIN_VALUE, Integer.MAX_VALUE}) {
            Check.due("written(" + k + ") of none", x.written(k), -1);
        }
        Check.due("write(7, 0, 0)", x.write(7, 0, 0), 5);
        Check.due("written(0)", x.written(0), 0);
        Check.due("written(4)", x.written(4), 0xE0);
        for (int k : new int[] {-1, 5, 6, 399, 400, 401, Integer.MIN_VALUE, Integer.MAX_VALUE}) {
            Check.due("written(" + k + ") of five", x.written(k), -1);
        }
        // The longest row that there can be, and what is behind it.
        int count = x.write(5, 255, 0);
        Check.due("the last one", x.written(count - 1) >= 0, true);
        Check.due("behind it", x.written(count), -1);
        Check.due("NONE is refused and leaves the bytes", x.write(5, 256, 0), -1);
        Check.due("the last one", x.written(count - 1) >= 0, true);
        x.reset();
        Check.due("the last one after reset()", x.written(count - 1) >= 0, true);
        Check.due("behind it after reset()", x.written(count), -1);
    }

    private static void passNothingWritten() {
        Check.sentence("pass: 0 when nothing was written");
        Check.due("pass()", new BlockPictures().pass(), 0);
        Twins.unchanged("pass()", BlockPictures::new, BlockPictures::pass);
        Supplier<BlockPictures> inUnit = () -> {
            BlockPictures x = new BlockPictures();
            x.feed(0x00000108, 4);
            x.feed(0, 2);
            return x;
        };
        Check.due("pass() in a unit", inUnit.get().pass(), 0);
        Twins.unchanged("pass() in a unit", inUnit, BlockPictures::pass);
        // A write that was refused has written nothing.
        BlockPictures x = new BlockPictures();
        x.write(7, 4, 0);
        Check.due("pass() after a refused write", x.pass() + x.end() + x.units(), 0);
    }

    private static void passStopped() {
        Check.sentence("pass: 0 when it is stopped");
        Check.due("pass()", States.stopped().pass(), 0);
        Twins.unchanged("pass()", States::stopped, BlockPictures::pass);
    }

    private static void passAnswers() {
        Check.sentence("The decoder takes the written bytes, in their order. Answers as feed does");
        BlockPictures x = new BlockPictures();
        x.write(7, 0, 0);
        Check.due("nothing ends", x.pass(), 0);
        Check.due("the one before ends", x.pass(), 1);
        Check.due("units()", x.units(), 1);
        Check.due("the bytes stay", x.written(3), 39);
        // A unit with no bytes ends, and is nothing.
        x = new BlockPictures();
        x.write(7, 0, 0);
        UnitBits.feed(x, 0, 0, 1);
        Check.due("one with no bytes", x.pass(), 0);
        x.end();
        Check.due("units()", x.units(), 1);
        // A zero before makes the start code's zeros three; none of them is a byte of the unit before.
        x = new BlockPictures();
        x.write(7, 0, 0);
        UnitBits.feed(x, 0, 0, 1, 8, 0);
        Check.due("behind a zero", x.pass(), 1);
        x.end();
        Check.due("units()", x.units(), 2);
        Check.due("fault()", x.fault(), 0);
        // One with a fault is included.
        x = new BlockPictures();
        x.write(7, 0, 0);
        UnitBits.feed(x, 0, 0, 1, 128);
        Check.due("one with a fault", x.pass(), 1);
        Check.due("fault()", x.fault(), 1);
    }

    private static void passStoppedOnItsWay() {
        Check.sentence("as far as it is not stopped before (pass)");
        // Stopped by the written start code: the parameters behind it are not taken.
        BlockPictures x = new BlockPictures();
        x.write(7, 0, 0);
        UnitBits.feed(x, 0, 0, 1, 128);
        x.pass();
        Check.due("end()", x.end() + x.units(), 0);
        Check.due("fault()", x.fault(), 1);
        // Stopped by FAULT 3, by the first zero or the second: that unit has not ended.
        for (int length = 318; length <= 320; length++) {
            x = new BlockPictures();
            x.write(7, 0, 0);
            UnitBits.feed(x, 0, 0, 1);
            for (int k = 0; k < length; k++) {
                x.feed(8, 1);
            }
            Check.due("behind " + length + " bytes", x.pass(), length == 318 ? 1 : 0);
            Check.due("fault()", x.fault(), length == 318 ? 0 : 3);
            Check.due("units()", x.units(), length == 318 ? 1 : 0);
        }
    }
}
