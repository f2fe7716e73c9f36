import java.util.ArrayList;
import java.util.List;
import java.util.function.Supplier;

/** The boundary cases of the promises 1 to 14, a method for each promise or sentence of it. */
public final class CallBoundsTest {
    private static final int[] NOT_0_TO_255 = {-1, 256, -256, 257, 512, 65536, Integer.MIN_VALUE, Integer.MAX_VALUE};

    public static void main(String[] args) {
        newObject();
        feedCounts();
        feedOrder();
        feedAnswers();
        feedStopped();
        endOfAUnit();
        endShowsAll();
        endForgets();
        endAnswers();
        endStopped();
        reset();
        fault();
        units();
        shown();
        order();
        sample();
        held();
        heldState();
        heldSample();
        vector();
        smoothed();
        Check.finish();
    }

    private static void newObject() {
        Check.sentence("Outside, no parameters, an empty buffer, nothing shown, no fault; no written bytes");
        BlockPictures x = new BlockPictures();
        Check.due("fault()", x.fault(), 0);
        Check.due("units()", x.units(), 0);
        Check.due("shown()", x.shown(), 0);
        Check.due("order(0)", x.order(0), -1);
        Check.due("sample(0)", x.sample(0), -1);
        Check.due("held()", x.held(), 0);
        Check.due("heldState(0)", x.heldState(0), -1);
        Check.due("heldSample(0, 0)", x.heldSample(0, 0), -1);
        Check.due("vector(0)", x.vector(0), -1);
        Check.due("smoothed()", x.smoothed(), 0);
        Check.due("written(0)", x.written(0), -1);
        Check.due("pass()", x.pass(), 0);
        Check.due("end()", x.end(), 0);
        Check.sentence("all samples of the source 0");
        x = new BlockPictures();
        x.write(5, 0, 0);
        // Byte 0, then 1 1 00 and the samples: 11000000 and zeros, but for the bit behind them.
        Check.due("written(4)", x.written(4), 0xC0);
        for (int k = 5; k < 390; k++) {
            Check.due("written(" + k + ") is 0, or a 3 put in", x.written(k) % 3, 0);
        }
    }

    private static void feedCounts() {
        Check.sentence("0 when count is not 1 .. 4");
        for (int count = 1; count <= 4; count++) {
            // So many lowest bytes: the last of them ends the unit that the decoder is in.
            BlockPictures x = new BlockPictures();
            UnitBits.feed(x, 0, 0, 1, 8, 0, 0);
            Check.due("feed(.., " + count + ")", x.feed(0, count), 1);
            Check.due("units()", x.units(), 1);
        }
        for (Supplier<BlockPictures> state : States.all().values()) {
            for (int count : new int[] {0, 5, -1, -3, -4, 8, 32, 256, Integer.MIN_VALUE, Integer.MAX_VALUE}) {
                Check.due("feed(0, " + count + ")", state.get().feed(0, count), 0);
                Twins.unchanged("feed(0, " + count + ")", state, x -> x.feed(0, count));
                Twins.unchanged("feed(1, " + count + ")", state, x -> x.feed(1, count));
                Twins.unchanged("feed(2, " + count + ")", state, x -> x.feed(2, count));
            }
        }
    }

    private static void feedOrder() {
        Check.sentence("Takes the count lowest bytes of word, the highest of them first");
        // 0, 0, 1, 0x88 in this order alone begin a unit with a wrong byte 0.
        int[][] ways = {{0x00000188, 4}, {0x000001, 3, 0x88, 1}, {0x0000, 2, 0x0188, 2}, {0, 1, 0x000188, 3},
            {0xFF000001, 3, 0xFFFFFF88, 1}, {0x7FFF0000, 2, 0x80000188, 2}, {0x12345600, 1, 0x99000188, 3}};
        for (int[] way : ways) {
            BlockPictures x = new BlockPictures();
            for (int k = 0; k < way.length; k += 2) {
                x.feed(way[k], way[k + 1]);
            }
            x.end();
            Check.due("fault() after feed(" + way[0] + ", " + way[1] + ")", x.fault(), 1);
        }
        for (int word : new int[] {0x88010000, 0x01000088, 0x00880001, 0x00010088}) {
            BlockPictures x = new BlockPictures();
            x.feed(word, 4);
            x.end();
            Check.due("fault() after feed(" + word + ", 4)", x.fault(), 0);
        }
        // A byte from 128 on is no negative number.
        BlockPictures x = new BlockPictures();
        x.feed(0x000001FF, 4);
        x.end();
        Check.due("fault() after a byte 255", x.fault(), 1);
    }

    private static void feedAnswers() {
        Check.sentence("Answers how many units ended in this call that had bytes, one with a fault included");
        BlockPictures x = new BlockPictures();
        Check.due("begins a unit", x.feed(0x00000108, 4), 0);
        Check.due("goes on", x.feed(0x0000, 2), 0);
        Check.due("ends it and begins the next", x.feed(0x01, 1), 1);
        Check.due("which has no bytes", x.feed(0x000001, 3), 0);
        Check.due("has one now, wrong", x.feed(0x80000001, 4), 1);
        Check.due("fault()", x.fault(), 1);
        Check.sentence("as far as it is not stopped before");
        // The unit ends with the first byte; the others would begin one, end it, or stop by FAULT 2.
        x = new BlockPictures();
        UnitBits.feed(x, 0, 0, 1, 0x80, 0, 0);
        Check.due("feed(0x01080000, 4)", x.feed(0x01080000, 4), 1);
        Check.due("feed(1, 1)", x.feed(1, 1), 0);
        Check.due("units()", x.units(), 0);
        Check.due("fault()", x.fault(), 1);
        Check.sentence("(A unit dropped by FAULT 2 or 3 has not ended.)");
        x = new BlockPictures();
        UnitBits.feed(x, 0, 0, 1, 8);
        Check.due("FAULT 2", x.feed(0x000002, 3), 0);
        Check.due("fault()", x.fault(), 2);
        x = new BlockPictures();
        UnitBits.feed(x, 0, 0, 1);
        for (int k = 0; k < 80; k++) {
            Check.due("four bytes", x.feed(0x08080808, 4), 0);
        }
        Check.due("fault()", x.fault(), 0);
        Check.due("FAULT 3", x.feed(8, 1), 0);
        Check.due("fault()", x.fault(), 3);
        // One ended in this call before the fault.
        x = new BlockPictures();
        UnitBits.feed(x, 0, 0, 1, 8, 0, 0);
        Check.due("one ended, one dropped", x.feed(0x01000002, 4), 1);
        Check.due("fault()", x.fault(), 2);
        Check.due("units()", x.units(), 1);
    }

    private static void feedStopped() {
        Check.sentence("feed: 0 when it is stopped");
        for (int count = 1; count <= 4; count++) {
            int bytes = count;
            Check.due("feed(0, " + count + ")", States.stopped().feed(0, count), 0);
            Check.due("feed(1, " + count + ")", States.stopped().feed(1, count), 0);
            Twins.unchanged("feed(0, " + count + ")", States::stopped, x -> x.feed(0, bytes));
            Twins.unchanged("feed(1, " + count + ")", States::stopped, x -> x.feed(1, bytes));
        }
    }

    private static BlockPictures inUnit(int... bytes) {
        BlockPictures x = new BlockPictures();
        UnitBits.feed(x, 0, 0, 1);
        UnitBits.feed(x, bytes);
        return x;
    }

    private static void endOfAUnit() {
        Check.sentence("Ends the unit that the decoder is in, if any, with the bytes that it has");
        int[][] rows = {{0, 0}, {1, 0, 8}, {1, 0, 0}, {1, 0, 0, 0}, {1, 0, 8, 0, 0}, {1, 0, 7, 0xE0}, {1, 0, 7, 0xE0, 0, 0},
            {0, 4, 7}, {0, 4, 7, 0, 0}, {0, 6, 7, 0xF0}, {0, 1, 0x80}};
        for (int[] row : rows) {
            int[] bytes = java.util.Arrays.copyOfRange(row, 2, row.length);
            BlockPictures x = inUnit(bytes);
            Check.due("end()", x.end(), 0);
            Check.due(java.util.Arrays.toString(bytes) + ", units()", x.units(), row[0]);
            Check.due(java.util.Arrays.toString(bytes) + ", fault()", x.fault(), row[1]);
        }
        // Outside there is nothing to end.
        BlockPictures x = new BlockPictures();
        x.feed(8, 1);
        Check.due("outside", x.end() + x.units(), 0);
    }

    private static void endShowsAll() {
        Check.sentence("then, if it is not stopped, shows all pictures that wait, as a key picture does, and empties the buffer");
        BlockPictures x = UnitBits.decoder(4, 0);
        Check.due("nothing held", x.end(), 0);
        UnitBits.parameters(4, 0).send(x, 7);
        Pictures.key(x, 20);
        Check.due("one", x.end(), 1);
        UnitBits.parameters(4, 0).send(x, 7);
        Pictures.key(x, 50);
        Pictures.other(x, 30);
        Pictures.reference(x, 30);
        Pictures.other(x, 40);
        Check.due("four", x.end(), 4);
        Pictures.shows("ascending", x, 20, 30, 30, 40, 50);
        Pictures.holds("empty", x);
        Check.due("none is left", x.end(), 0);
        // A reference that was shown waits no more, and it leaves all the same.
        x = UnitBits.decoder(1, 0);
        Pictures.key(x, 20);
        Pictures.other(x, 30);
        Pictures.holds("a reference alone", x, 20, 1);
        Check.due("none waits", x.end(), 0);
        Pictures.holds("empty", x);
    }

    private static void endForgets() {
        Check.sentence("no parameters are pending or taken then; it is OUTSIDE, Z is 0");
        BlockPictures x = UnitBits.decoder(1, 0);
        x.end();
        Pictures.key(x, 9);
        Check.due("pending before end(): fault()", x.fault(), 7);
        x = UnitBits.decoder(1, 0);
        Pictures.key(x, 9);
        x.end();
        Pictures.key(x, 9);
        Check.due("taken before end(): fault()", x.fault(), 7);
        // Pending by the very unit that end() ends.
        x = inUnit(7, 0xE0);
        x.end();
        Check.due("units()", x.units(), 1);
        Pictures.key(x, 9);
        Check.due("pending in end(): fault()", x.fault(), 7);
        for (int[] before : new int[][] {{0, 0, 1}, {0, 0, 1, 8}, {0, 0, 1, 8, 0, 0}, {0, 0}, {0, 0, 0}, {0}, {0, 0, 1, 8, 0, 0, 0}}) {
            for (int[] behind : new int[][] {{1, 9, 0, 0, 0}, {0, 1, 9, 0, 0, 0}, {9, 0, 0, 0}, {0, 0, 2}, {2}}) {
                x = new BlockPictures();
                UnitBits.feed(x, before);
                x.end();
                int units = x.units();
                Check.due("no unit is there to end", UnitBits.feed(x, behind), 0);
                Check.due("units()", x.units(), units);
                Check.due("fault()", x.fault(), 0);
            }
        }
    }

    private static BlockPictures withOneWaiting() {
        BlockPictures x = UnitBits.decoder(1, 0);
        Pictures.key(x, 9);
        return x;
    }

    private static void endAnswers() {
        Check.sentence("how many pictures were shown in this call (by the unit that it ends, too");
        BlockPictures x = withOneWaiting();
        UnitBits.feed(x, UnitBits.framed(UnitBits.next(4, 0).copied(16).unit(1)));
        Check.due("nothing yet", x.shown(), 0);
        Check.due("4 by the unit, then 9", x.end(), 2);
        Check.due("order(0)", x.order(0), 9);
        x = withOneWaiting();
        UnitBits.feed(x, UnitBits.framed(UnitBits.key(4, 0).means(16).unit(5)));
        Check.due("9 by the unit, then 4", x.end(), 2);
        Check.due("order(0)", x.order(0), 4);
        x = withOneWaiting();
        Pictures.other(x, 3);
        Check.due("those shown before are not counted", x.end(), 1);
        Check.due("shown()", x.shown(), 2);
        Check.sentence("if that is a FAULT the others are not shown)");
        x = withOneWaiting();
        UnitBits.feed(x, UnitBits.framed(UnitBits.next(4, 0).copied(17).unit(1)));
        Check.due("a fault in end()", x.end(), 0);
        Check.due("fault()", x.fault(), 6);
        Check.due("shown()", x.shown(), 0);
        Pictures.other(x, 5);
        Check.due("heldState(0)", x.heldState(0), 39);
        Check.due("held()", x.held(), 1);
        Check.due("units()", x.units(), 2);
    }

    private static void endStopped() {
        Check.sentence("0, changing nothing, when it was stopped at its beginning");
        Check.due("end()", States.stopped().end(), 0);
        Twins.unchanged("end()", States::stopped, BlockPictures::end);
        BlockPictures x = States.stopped();
        x.end();
        Check.due("held() stays", x.held(), 2);
        Check.due("fault() stays", x.fault(), 2);
    }

    private static void reset() {
        Check.sentence("All is as it was at the beginning (nothing shown, none decoded)");
        for (Supplier<BlockPictures> state : States.all().values()) {
            BlockPictures x = state.get();
            x.reset();
            Check.due("fault()", x.fault(), 0);
            Check.due("units()", x.units(), 0);
            Check.due("shown()", x.shown(), 0);
            Check.due("held()", x.held(), 0);
            Check.due("smoothed()", x.smoothed(), 0);
            for (int k = 0; k < 16; k++) {
                Check.due("order(" + k + ")", x.order(k), -1);
                Check.due("vector(" + k + ")", x.vector(k), -1);
                Check.due("heldState(" + k + ")", x.heldState(k), -1);
                Check.due("heldSample(" + k + ", 0)", x.heldSample(k, 0), -1);
                Check.due("sample(" + k + ")", x.sample(k), -1);
            }
            // Outside, Z is 0, no parameters.
            Check.due("bytes 2 and 1", x.feed(0x0201, 2), 0);
            Check.due("fault()", x.fault(), 0);
            Check.due("end()", x.end() + x.units(), 0);
            Pictures.key(x, 9);
            Check.due("no parameters", x.fault(), 7);
        }
        Check.sentence("but the source and the written bytes stay");
        BlockPictures x = States.busy();
        x.reset();
        int[] due = {0, 0, 1, 39, 0x4E, -1};
        for (int k = 0; k < due.length; k++) {
            Check.due("written(" + k + ")", x.written(k), due[k]);
        }
        Check.due("pass()", x.pass() + x.end() + x.units(), 1);
        x.write(7, 0, 0);
        x.pass();
        x.write(5, 1, 0);
        x.pass();
        Check.due("end()", x.end(), 1);
        for (int i = 0; i < 17; i++) {
            Check.due("sample(" + i + ")", x.sample(i), i < 16 ? 200 + i : 0);
        }
    }

    private static void fault() {
        Check.sentence("The number of the FAULT by which the decoder is stopped; 0 when it is not");
        List<BlockPictures> all = new ArrayList<>();
        all.add(new BlockPictures());
        all.add(inUnit(128, 0, 0, 0));
        all.add(inUnit(8, 0, 0, 2));
        all.add(inUnit(new int[0]));
        for (int k = 0; k < 81; k++) {
            all.get(3).feed(0x08080808, 4);
        }
        all.add(inUnit(7, 0, 0, 0));
        all.add(inUnit(7, 0x2E, 0, 0, 0));
        all.add(inUnit(7, 0xF0, 0, 0, 0));
        all.add(inUnit(5, 0x80, 0, 0, 0));
        all.add(inUnit(1, 0x80, 0, 0, 0));
        all.add(UnitBits.decoder(1, 0));
        UnitBits.key(1, 0).raw("10").send(all.get(9), 5);
        for (int number = 0; number <= 9; number++) {
            BlockPictures x = all.get(number);
            Check.due("FAULT " + number, x.fault(), number);
            x.end();
            x.feed(0, 4);
            x.draw(0, 1);
            x.write(7, 0, 0);
            x.pass();
            Check.due("FAULT " + number + " stays", x.fault(), number);
            x.reset();
            Check.due("FAULT " + number + " until reset()", x.fault(), 0);
        }
    }

    private static void units() {
        Check.sentence("How many units have been worked through without a fault, those passed over included");
        BlockPictures x = new BlockPictures();
        UnitBits.feed(x, 0, 0, 1, 8, 0, 0, 0);
        Check.due("one passed over", x.units(), 1);
        UnitBits.feed(x, 0, 0, 1, 0, 0, 0);
        Check.due("one with no bytes is none", x.units(), 1);
        UnitBits.parameters(1, 0).send(x, 7);
        Pictures.key(x, 9);
        Pictures.other(x, 5);
        Check.due("parameters and two pictures", x.units(), 4);
        UnitBits.feed(x, 0, 0, 1, 8);
        Check.due("one that has not ended", x.units(), 4);
        x.end();
        Check.due("end() ends it and keeps the count", x.units(), 5);
        UnitBits.feed(x, 0, 0, 1, 128, 0, 0, 0);
        Check.due("one with a fault", x.units(), 5);
        x.reset();
        Check.due("reset()", x.units(), 0);
        // One that has not ended is there behind every call.
        x = new BlockPictures();
        for (int k = 0; k < 250; k++) {
            Check.due("a unit a call", x.feed(0x00000108, 4), k == 0 ? 0 : 1);
            Check.due("units()", x.units(), k);
        }
    }

    private static void shown() {
        Check.sentence("How many pictures have been shown");
        BlockPictures x = UnitBits.decoder(1, 0);
        Check.due("none", x.shown(), 0);
        Pictures.key(x, 100);
        Check.due("one waits", x.shown(), 0);
        for (int k = 1; k <= 20; k++) {
            Pictures.other(x, k);
            Check.due("one more", x.shown(), k);
        }
        x.end();
        Check.due("end()", x.shown(), 21);
        // Each key picture shows the one before it: as many as calls can bring.
        x = new BlockPictures();
        x.write(7, 0, 0);
        x.pass();
        for (int k = 0; k < 125; k++) {
            x.write(5, k, 0);
            Check.due("pass()", x.pass(), 1);
            Check.due("shown()", x.shown(), Math.max(0, k - 1));
            Check.due("order(0)", x.order(0), k < 2 ? -1 : k - 2);
        }
        Check.due("order(7)", x.order(7), 115);
    }

    private static void order() {
        Check.sentence("NONE when k is not 0 .. 7 or so many were not shown");
        BlockPictures x = UnitBits.decoder(1, 0);
        Pictures.key(x, 100);
        for (int k = 0; k <= 10; k++) {
            for (int back = -1; back <= 11; back++) {
                int due = back < 0 || back > 7 || back >= k ? -1 : 50 + k - 1 - back;
                Check.due("order(" + back + ") of " + k, x.order(back), due);
            }
            Check.due("order of the least", x.order(Integer.MIN_VALUE), -1);
            Check.due("order of the most", x.order(Integer.MAX_VALUE), -1);
            Pictures.other(x, 50 + k);
        }
        Twins.unchanged("order(8)", States::busy, y -> y.order(8));
    }

    private static void sample() {
        Check.sentence("sample: NONE when none was shown or i is not 0 .. 255");
        BlockPictures x = UnitBits.decoder(2, 0);
        UnitBits.key(9, 0).blocks((c, r) -> 16 * r + 15 - c).send(x, 5);
        Check.due("none was shown", x.sample(0), -1);
        Check.due("none was shown", x.sample(255), -1);
        x.end();
        Check.due("sample(0)", x.sample(0), 15);
        Check.due("sample(1)", x.sample(1), 14);
        Check.due("sample(16)", x.sample(16), 31);
        Check.due("sample(254)", x.sample(254), 241);
        Check.due("sample(255)", x.sample(255), 240);
        for (int i : NOT_0_TO_255) {
            Check.due("sample(" + i + ")", x.sample(i), -1);
        }
    }

    private static void held() {
        Check.sentence("How many pictures are in the buffer");
        BlockPictures x = UnitBits.decoder(4, 0);
        Check.due("none", x.held(), 0);
        Pictures.key(x, 10);
        for (int k = 1; k <= 6; k++) {
            Check.due("one more", x.held(), Math.min(k, 4));
            Pictures.other(x, 10 + k);
        }
        x.end();
        Check.due("end()", x.held(), 0);
    }

    private static void heldState() {
        Check.sentence("heldState: times 4, plus 1 when it is a reference, plus 2 when it waits; NONE when there is none");
        BlockPictures x = UnitBits.decoder(4, 0);
        Check.due("heldState(0) of none", x.heldState(0), -1);
        UnitBits.key(0, 0).means(16).send(x, 5);
        Check.due("order 0, both", x.heldState(0), 3);
        UnitBits.next(255, 0).copied(16).send(x, 1);
        Check.due("order 255, waits", x.heldState(1), 1022);
        Check.due("heldState(2) of two", x.heldState(2), -1);
        new UnitBits().number(255).signed(0).number(0).raw("0 0").copied(16).send(x, 0x21);
        Check.due("order 255, both", x.heldState(2), 1023);
        UnitBits.next(255, 0).copied(16).send(x, 1);
        Check.due("heldState(3) of four", x.heldState(3), 1022);
        for (int k : new int[] {-1, 4, 5, 8, Integer.MIN_VALUE, Integer.MAX_VALUE}) {
            Check.due("heldState(" + k + ") of four", x.heldState(k), -1);
        }
        UnitBits.next(255, 0).copied(16).send(x, 1);
        Check.due("order 0, a reference", x.heldState(0), 1);
    }

    private static void heldSample() {
        Check.sentence("heldSample: NONE when there is none or i is not 0 .. 255");
        BlockPictures x = UnitBits.decoder(2, 0);
        Check.due("heldSample(0, 0) of none", x.heldSample(0, 0), -1);
        UnitBits.key(9, 0).blocks((c, r) -> 16 * r + 15 - c).send(x, 5);
        for (int k : new int[] {-1, 1, 2, 4, 256, Integer.MIN_VALUE, Integer.MAX_VALUE}) {
            Check.due("heldSample(" + k + ", 0) of one", x.heldSample(k, 0), -1);
            Check.due("heldSample(" + k + ", 255) of one", x.heldSample(k, 255), -1);
        }
        Pictures.other(x, 77);
        for (int i : NOT_0_TO_255) {
            Check.due("heldSample(0, " + i + ")", x.heldSample(0, i), -1);
            Check.due("heldSample(1, " + i + ")", x.heldSample(1, i), -1);
        }
        Check.due("heldSample(0, 0)", x.heldSample(0, 0), 15);
        Check.due("heldSample(0, 255)", x.heldSample(0, 255), 240);
        Check.due("heldSample(1, 0)", x.heldSample(1, 0), 77);
        Check.due("heldSample(1, 255)", x.heldSample(1, 255), 77);
        Check.due("heldSample(2, 0)", x.heldSample(2, 0), -1);
        x.end();
        Check.due("heldSample(0, 0) after end()", x.heldSample(0, 0), -1);
    }

    private static void vector() {
        Check.sentence("vector: NONE when INTRA; NONE when no picture has been decoded or n is not 0 .. 15");
        BlockPictures x = UnitBits.decoder(4, 0);
        Check.due("none decoded", x.vector(0), -1);
        Pictures.key(x, 9);
        Check.due("INTRA", x.vector(0), -1);
        int[][] rows = {{-64, -64, 0}, {64, 64, 256 * 128 + 128}, {-64, 64, 128}, {64, -64, 256 * 128}, {0, 0, 256 * 64 + 64}};
        for (int[] row : rows) {
            UnitBits.next(9, 0).inter(row[0], row[1]).raw("0").copied(14).raw("11 01 0").send(x, 1);
            Check.due("vector(0)", x.vector(0), row[2]);
            Check.due("vector(14)", x.vector(14), row[2]);
            Check.due("vector(15), INTRA", x.vector(15), -1);
            for (int n : new int[] {-1, 16, 17, 255, Integer.MIN_VALUE, Integer.MAX_VALUE}) {
                Check.due("vector(" + n + ")", x.vector(n), -1);
            }
        }
        // A picture with a fault has not been decoded.
        UnitBits.next(9, 0).inter(8, 8).raw("0").copied(16).send(x, 1);
        Check.due("fault()", x.fault(), 6);
        Check.due("vector(0) of the one before", x.vector(0), 256 * 64 + 64);
        x.reset();
        Check.due("none decoded after reset()", x.vector(0), -1);
    }

    private static void smoothed() {
        Check.sentence("smoothed: 0 when none has been decoded");
        BlockPictures x = UnitBits.decoder(1, 0);
        Check.due("none decoded", x.smoothed(), 0);
        UnitBits.key(9, 0).plain(100).plain(103).plain(0).plain(255).plain(200).plain(0).means(10).raw("0").send(x, 5);
        Check.due("one with a fault", x.fault(), 6);
        Check.due("has not been decoded", x.smoothed(), 0);
        x.reset();
        UnitBits.parameters(1, 0).send(x, 7);
        UnitBits.key(9, 0).plain(100).plain(103).plain(200).plain(250).plain(200).plain(0).means(10).send(x, 5);
        Check.due("four lines", x.smoothed(), 4);
        UnitBits.next(10, 0).copied(16).send(x, 1);
        Check.due("of the latest decoded picture: none", x.smoothed(), 0);
        UnitBits.next(10, 0).copied(15).raw("11 01 0").send(x, 1);
        int last = x.smoothed();
        UnitBits.next(10, 0).copied(15).raw("11 01 0").send(x, 1);
        Check.due("the same once more, not the sum", x.smoothed(), last);
        UnitBits.key(9, 0).plain(100).plain(103).plain(200).plain(250).plain(200).plain(0).means(10).send(x, 5);
        x.end();
        Check.due("after end()", x.smoothed(), 4);
        x.reset();
        Check.due("after reset()", x.smoothed(), 0);
    }
}
