import java.util.Arrays;

/** The boundary cases of "BYTES TO UNITS", a method for each sentence. */
public final class BytesBoundsTest {
    /** A unit of type 7 that is right: byte 0, the data 11 (both numbers 0) and the 1 behind them. */
    private static final int[] RIGHT = {7, 0xE0};

    public static void main(String[] args) {
        outsideAtFirst();
        twoZerosOrMore();
        unitBeginsEmpty();
        zerosOutside();
        thirdZeroEnds();
        outsideWithThreeZeros();
        startCodeEnds();
        byteTwo();
        byteThree();
        bytesFromFourOn();
        unitOf320();
        full();
        zerosInside();
        noBytes();
        workedThroughAtItsEnd();
        stopped();
        Check.finish();
    }

    /** Feeds the bytes to a new object and looks at what became of them. */
    private static BlockPictures after(int units, int fault, int... bytes) {
        BlockPictures x = new BlockPictures();
        UnitBits.feed(x, bytes);
        String what = "after " + (bytes.length > 20 ? bytes.length + " bytes" : Arrays.toString(bytes));
        Check.due(what + ", units()", x.units(), units);
        Check.due(what + ", fault()", x.fault(), fault);
        return x;
    }

    private static int[] joined(int[]... parts) {
        return Arrays.stream(parts).flatMapToInt(Arrays::stream).toArray();
    }

    private static int[] row(int... bytes) {
        return bytes;
    }

    /** So many bytes of a unit of type 8, which is passed over; none of them is 0. */
    private static int[] eights(int count) {
        int[] bytes = new int[count];
        Arrays.fill(bytes, 8);
        return bytes;
    }

    /** A start code, and so many bytes of a unit. */
    private static int[] inUnit(int count) {
        return joined(row(0, 0, 1), eights(count));
    }

    private static void outsideAtFirst() {
        Check.sentence("The decoder is OUTSIDE at first, with a count Z of zero bytes, 0");
        after(0, 0, 8, 0, 0, 0);
        after(0, 0, 1, 8, 0, 0, 0);
        after(0, 0, 0, 1, 8, 0, 0, 0);
    }

    private static void twoZerosOrMore() {
        Check.sentence("a byte 1 when Z is 2 or more begins a unit");
        for (int zeros = 0; zeros < 12; zeros++) {
            after(zeros < 2 ? 0 : 1, 0, joined(new int[zeros], row(1, 8, 0, 0, 0)));
        }
        // As many as 512 calls can bring; no count of them is too high.
        for (int zeros = 12; zeros < 2030; zeros++) {
            after(1, 0, joined(new int[zeros], row(1, 8, 0, 0, 0)));
        }
    }

    private static void unitBeginsEmpty() {
        Check.sentence("begins a unit, with no bytes, and Z is 0 then");
        // With two zeros counted these would be a start code, FAULT 2, a dropped byte or the unit's end.
        after(0, 4, 0, 0, 1, 1, 0, 0, 0);
        after(1, 0, 0, 0, 1, 2, 0, 0, 0);
        after(1, 0, 0, 0, 1, 3, 0, 0, 0);
        after(1, 0, 0, 0, 1, 0, 2, 0, 0, 0);
        after(1, 0, 0, 0, 0, 1, 2, 0, 0, 0);
        // Nothing of a longer unit before it is left: its bytes would be data left.
        after(2, 0, 0, 0, 1, 8, 255, 255, 255, 0, 0, 1, 7, 0xE0, 0, 0, 0);
        after(2, 0, 0, 0, 1, 8, 255, 255, 255, 0, 0, 0, 1, 7, 0xE0, 0, 0, 0);
    }

    private static void zerosOutside() {
        Check.sentence("a byte 0 adds 1 to Z; every other byte makes Z 0");
        for (int value = 1; value < 256; value++) {
            after(0, 0, 0, value, 0, 1, 8, 0, 0, 0);
            after(1, 0, 0, value, 0, 0, 1, 8, 0, 0, 0);
            if (value > 1) {
                after(0, 0, 0, 0, value, 1, 8, 0, 0, 0);
                after(0, 0, 0, 0, value, 0, 1, 8, 0, 0, 0);
            }
        }
    }

    private static void thirdZeroEnds() {
        Check.sentence("IN A UNIT, when Z is 2: a byte 0 ends the unit without its last two bytes (those zeros)");
        BlockPictures x = after(0, 0, 0, 0, 1, 8, 0, 0);
        Check.due("the third zero", x.feed(0, 1), 1);
        Check.due("units()", x.units(), 1);
        // Its two zeros are all that it has: it ends with no bytes.
        after(0, 0, 0, 0, 1, 0, 0, 0);
        // Only the zeros leave: byte 0 and its data stay.
        after(1, 0, joined(row(0, 0, 1), RIGHT, row(0, 0, 0)));
        after(0, 6, 0, 0, 1, 7, 0xE8, 0, 0, 0);
    }

    private static void outsideWithThreeZeros() {
        Check.sentence("and the decoder is OUTSIDE with Z = 3");
        after(2, 0, 0, 0, 1, 8, 0, 0, 0, 1, 9, 0, 0, 0);
        after(2, 0, 0, 0, 1, 8, 0, 0, 0, 0, 1, 9, 0, 0, 0);
        after(1, 0, 0, 0, 1, 8, 0, 0, 0, 9, 0, 0, 0);
        after(1, 0, 0, 0, 1, 8, 0, 0, 0, 9, 1, 9, 0, 0, 0);
        after(1, 0, 0, 0, 1, 8, 0, 0, 0, 2);
        after(1, 0, 0, 0, 1, 8, 0, 0, 0, 3, 1, 9, 0, 0, 0);
    }

    private static void startCodeEnds() {
        Check.sentence("a byte 1 ends the unit likewise and begins the next one, Z is 0");
        BlockPictures x = after(0, 0, 0, 0, 1, 8, 0, 0);
        Check.due("the byte 1", x.feed(1, 1), 1);
        Check.due("units()", x.units(), 1);
        after(2, 0, 0, 0, 1, 8, 0, 0, 1, 9, 0, 0, 0);
        // Likewise: without the two zeros, so that this one has no bytes.
        after(1, 0, 0, 0, 1, 0, 0, 1, 9, 0, 0, 0);
        // With two zeros counted these would be FAULT 2, a dropped byte and the end of a unit.
        after(2, 0, 0, 0, 1, 8, 0, 0, 1, 2, 0, 0, 0);
        after(2, 0, 0, 0, 1, 8, 0, 0, 1, 3, 0, 0, 0);
        after(2, 0, 0, 0, 1, 8, 0, 0, 1, 0, 2, 0, 0, 0);
    }

    private static void byteTwo() {
        Check.sentence("a byte 2 is FAULT 2");
        after(0, 2, 0, 0, 1, 8, 0, 0, 2);
        after(0, 2, 0, 0, 1, 0, 0, 2);
        after(1, 2, 0, 0, 1, 8, 0, 0, 1, 9, 0, 0, 2);
        after(1, 0, 0, 0, 1, 8, 0, 2, 0, 0, 0);
        after(1, 0, 0, 0, 1, 2, 0, 0, 0);
        after(0, 0, 0, 0, 2);
        after(0, 0, 0, 0, 0, 2);
    }

    private static void byteThree() {
        Check.sentence("a byte 3 is dropped, Z is 0");
        // Were the 3 kept, it would be data left behind the parameters.
        after(1, 0, 0, 0, 1, 7, 0xE0, 0, 0, 3, 0, 0, 0);
        after(0, 6, 0, 0, 1, 7, 0xE0, 0, 3, 0, 0, 0);
        // The zeros before it stay: here they are the first sixteen bits of data, and eleven are too many.
        after(0, 5, 0, 0, 1, 7, 0, 0, 3, 1, 0, 0, 0);
        // Z is 0: neither one zero nor two behind it are enough for what a third would do.
        after(0, 0, 0, 0, 1, 8, 0, 0, 3, 0);
        after(0, 0, 0, 0, 1, 8, 0, 0, 3, 0, 0);
        after(1, 0, 0, 0, 1, 8, 0, 0, 3, 0, 0, 0);
        after(0, 0, 0, 0, 1, 8, 0, 0, 3, 0, 1);
        after(0, 0, 0, 0, 1, 8, 0, 0, 3, 1);
        after(0, 0, 0, 0, 1, 8, 0, 0, 3, 2);
        // A second 3 is a byte of the unit.
        after(0, 6, 0, 0, 1, 7, 0xE0, 0, 0, 3, 3, 0, 0, 0);
        // A unit may begin with two zeros, and its type is 0 then.
        after(1, 0, 0, 0, 1, 0, 0, 3, 7, 0, 0, 0);
        // Outside it is a byte as any other.
        after(0, 0, 0, 0, 3, 1, 8, 0, 0, 0);
    }

    private static void bytesFromFourOn() {
        Check.sentence("IN A UNIT otherwise: the byte is added to the unit's (a byte above 3 behind two zeros)");
        for (int value = 4; value < 256; value++) {
            after(0, 6, 0, 0, 1, 7, 0xE0, 0, 0, value, 0, 0, 0);
            after(0, 0, 0, 0, 1, 8, 0, 0, value, 1);
            after(1, 0, 0, 0, 1, 8, 0, 0, value, 0, 0, 1);
        }
    }

    private static void unitOf320() {
        Check.sentence("when the unit has 320 bytes, FAULT 3; else the byte is added to the unit's");
        BlockPictures x = after(0, 0, inUnit(319));
        Check.due("byte 320", x.feed(8, 1), 0);
        Check.due("fault()", x.fault(), 0);
        Check.due("byte 321", x.feed(8, 1), 0);
        Check.due("fault()", x.fault(), 3);
        Check.due("units()", x.units(), 0);
        x = after(0, 0, inUnit(320));
        Check.due("end()", x.end(), 0);
        Check.due("320 bytes are a unit", x.units(), 1);
        // All 320 are the unit's: without the last one the 1 behind the data would be the second number.
        int[] unit = joined(row(7, 0xC0), new int[317], row(0x80));
        x = after(0, 0, UnitBits.framed(unit));
        x.end();
        Check.due("the last of 320 bytes", x.fault(), 6);
        // A zero that would be one byte too many is no better than another.
        after(0, 3, joined(inUnit(320), row(0)));
        after(0, 3, joined(inUnit(319), row(0, 0)));
        after(0, 3, joined(inUnit(319), row(0, 1)));
        // The count begins anew with each unit.
        after(1, 0, joined(row(0, 0, 1, 9, 0, 0, 1), eights(320)));
        after(1, 3, joined(row(0, 0, 1, 9, 0, 0, 1), eights(321)));
    }

    private static void full() {
        Check.sentence("IN A UNIT, when Z is 2 (a unit of 320 bytes with the zeros)");
        int[] bytes = joined(inUnit(318), row(0, 0));
        after(0, 0, bytes);
        after(1, 0, joined(bytes, row(0)));
        after(1, 0, joined(bytes, row(1)));
        after(0, 2, joined(bytes, row(2)));
        after(0, 0, joined(bytes, row(3)));
        after(0, 3, joined(bytes, row(4)));
        after(0, 3, joined(bytes, row(3, 0)));
        after(0, 3, joined(bytes, row(3, 3)));
        // The dropped byte is none of the 320.
        after(0, 0, joined(row(0, 0, 1, 0, 0, 3), eights(318)));
        after(0, 3, joined(row(0, 0, 1, 0, 0, 3), eights(319)));
    }

    private static void zerosInside() {
        Check.sentence("Z grows by 1 for a zero byte and is 0 after any other one");
        for (int value = 1; value < 256; value++) {
            after(0, 0, 0, 0, 1, 8, 0, value, 0, 0);
            after(1, 0, 0, 0, 1, 8, 0, value, 0, 0, 0);
            after(0, 0, 0, 0, 1, 8, 0, value, 0, 1, 0, 2, 0, 3);
            after(0, 0, 0, 0, 1, 8, value, 0, 1);
        }
    }

    private static void noBytes() {
        Check.sentence("A unit that ends with no bytes is nothing");
        BlockPictures x = after(0, 0, 0, 0, 1, 0, 0);
        Check.due("ended by a byte 1", x.feed(1, 1), 0);
        Check.due("fed two zeros", x.feed(0, 2), 0);
        Check.due("ended by a byte 0", x.feed(0, 1), 0);
        Check.due("begun anew", x.feed(1, 1), 0);
        Check.due("ended by end()", x.end(), 0);
        Check.due("units()", x.units(), 0);
        Check.due("fault()", x.fault(), 0);
        // With one byte it is something, be that byte 0: a dropped 3 keeps the zeros in the unit.
        after(1, 0, 0, 0, 1, 8, 0, 0, 0);
        after(1, 0, 0, 0, 1, 0, 0, 3, 0, 0, 0);
    }

    private static void workedThroughAtItsEnd() {
        Check.sentence("every other one is worked through when it ends");
        BlockPictures x = after(0, 0, joined(row(0, 0, 1), RIGHT));
        Check.due("one zero", x.feed(0, 1) + x.units(), 0);
        Check.due("two zeros", x.feed(0, 1) + x.units(), 0);
        Check.due("three zeros", x.feed(0, 1), 1);
        Check.due("units()", x.units(), 1);
        // A fault comes at the end, too.
        x = after(0, 0, 0, 0, 1, 128, 0, 0);
        Check.due("the end of a wrong one", x.feed(1, 1), 1);
        Check.due("fault()", x.fault(), 1);
    }

    private static void stopped() {
        Check.sentence("the decoder is STOPPED: it takes no more bytes until reset()");
        int[][] wrong = {{0, 0, 1, 128, 0, 0, 1}, {0, 0, 1, 8, 0, 0, 2}, joined(inUnit(321), row()),
            {0, 0, 1, 7, 0, 0, 1}, {0, 0, 1, 7, 0x2E, 0, 0, 1}, {0, 0, 1, 7, 0xC8, 0, 0, 1},
            {0, 0, 1, 5, 0x80, 0, 0, 1}, {0, 0, 1, 1, 0x80, 0, 0, 1}};
        for (int k = 0; k < wrong.length; k++) {
            BlockPictures x = after(0, k + 1, wrong[k]);
            Check.due("bytes when stopped", UnitBits.feed(x, 8, 0, 0, 0, 0, 0, 1, 8, 0, 0, 1, 8, 0, 0, 2), 0);
            Check.due("units()", x.units(), 0);
            Check.due("fault()", x.fault(), k + 1);
            x.reset();
            Check.due("bytes after reset()", UnitBits.feed(x, 8, 0, 0, 0, 1, 8, 0, 0, 1), 1);
            Check.due("units()", x.units(), 1);
            Check.due("fault()", x.fault(), 0);
        }
    }
}
