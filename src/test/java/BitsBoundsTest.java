import java.util.ArrayList;
import java.util.List;

/** The boundary cases of "A UNIT'S BITS" and "TYPE 7, PARAMETERS", a method for each sentence. */
public final class BitsBoundsTest {
    public static void main(String[] args) {
        highestBit();
        rank();
        type();
        dataUpToTheLastOne();
        noDataAtAll();
        noBitIsOne();
        bits();
        numbers();
        elevenZeros();
        signed();
        dataEnd();
        dataLeft();
        firstFaultCounts();
        places();
        base();
        pendingInPlaceOfFormerOnes();
        pendingUntilAKeyPicture();
        otherTypes();
        Check.finish();
    }

    /** Sends the unit to x, which has no fault yet, and looks at what became of it. */
    private static BlockPictures sent(String what, BlockPictures x, int[] unit, int fault) {
        int before = x.units();
        Check.due(what + ", ended", UnitBits.sendBytes(x, unit), 1);
        Check.due(what + ", fault()", x.fault(), fault);
        Check.due(what + ", units()", x.units() - before, fault == 0 ? 1 : 0);
        return x;
    }

    private static BlockPictures alone(int fault, int... unit) {
        return sent("the unit " + java.util.Arrays.toString(unit), new BlockPictures(), unit, fault);
    }

    private static void parameters(int fault, String bits) {
        sent("parameters " + bits, new BlockPictures(), new UnitBits().raw(bits).unit(7), fault);
    }

    private static void highestBit() {
        Check.sentence("Byte 0: its highest bit must be 0, else FAULT 1");
        alone(0, 127);
        alone(1, 128);
        alone(0, 8);
        alone(1, 136);
        alone(1, 255);
        // It comes before all that is said of the types.
        alone(0, 7, 0xE0);
        alone(1, 135, 0xE0);
        alone(1, 135);
        alone(1, 133, 0x80);
        alone(1, 129, 0x80);
    }

    private static void rank() {
        Check.sentence("the next two bits are its RANK");
        for (int rank = 0; rank < 4; rank++) {
            BlockPictures x = UnitBits.decoder(4, 0);
            Pictures.key(x, 9);
            Pictures.next(x, rank, 20, 20, -1);
            Pictures.holds("rank " + rank, x, 9, 3, 20, rank == 0 ? 2 : 3);
        }
    }

    private static void type() {
        Check.sentence("the lowest five its TYPE");
        for (int head = 0; head < 128; head++) {
            int type = head % 32;
            // No references, no parameters, a first number 4.
            alone(type == 1 ? 8 : type == 5 ? 7 : type == 7 ? 5 : 0, head, 0x2F);
        }
    }

    private static void dataUpToTheLastOne() {
        Check.sentence("The DATA are the bits of the bytes from 1 on, up to (without) the last of these bits that is 1");
        alone(0, 7, 0xE0);
        alone(0, 7, 0xE0, 0, 0, 0, 0, 0);
        // The 1 behind the data as the first bit of a byte, as the last one, and one bit before and behind.
        alone(0, 7, 0x44, 0x80);
        alone(6, 7, 0x44, 0x40);
        alone(4, 7, 0x45);
        alone(4, 7, 0x44);
        alone(6, 7, 0xC0, 0x01);
        alone(6, 7, 0xC0, 0, 0, 0, 0, 1);
        // Byte 0 has no data: its bits are not read.
        alone(0, 103, 0xE0);
    }

    private static void noDataAtAll() {
        Check.sentence("(so there may be no data at all)");
        // With a 1 in it the unit is not FAULT 4 at once: what is said of its type comes first.
        alone(7, 5, 0x80);
        alone(8, 1, 0x80);
        alone(4, 7, 0x80);
        sent("a key picture", UnitBits.decoder(1, 0), new int[] {5, 0x80}, 4);
        sent("a next picture", BoundedNumbers.ready(), new int[] {1, 0x80}, 4);
    }

    private static void noBitIsOne() {
        Check.sentence("when none of these bits is 1, in a unit of type 1, 5 or 7, FAULT 4, before all that is said");
        for (int head = 1; head < 128; head++) {
            int type = head % 32;
            int due = type == 1 || type == 5 || type == 7 ? 4 : 0;
            alone(due, head);
            alone(due, head, 0);
            alone(due, head, 0, 0, 0, 0);
        }
    }

    private static void bits() {
        Check.sentence("BITS(k): k bits, the highest first");
        for (int value : new int[] {0, 1, 2, 64, 127, 128, 254, 255}) {
            BlockPictures x = UnitBits.decoder(1, 0);
            UnitBits.key(3, 0).raw("00").bits(value, 8).bits(0, 120).means(15).send(x, 5);
            Check.due("sample " + value, x.heldSample(0, 0), value);
        }
    }

    /** What level a coefficient of place 15 had, seen at the first sample of block 1: level / 4, rounded. */
    private static int seenLevel(int predicted, UnitBits bits) {
        BlockPictures x = UnitBits.decoder(1, 0);
        UnitBits.key(3, 0).plain(predicted).raw("11 1 1").number(15).raw(bits.text()).means(14).send(x, 5);
        Check.due("fault()", x.fault(), 0);
        return x.heldSample(0, 4) - predicted;
    }

    private static void numbers() {
        Check.sentence("NUMBER: z zeros, a 1, then BITS(z): 2 to the power z, less 1, plus these bits");
        for (int order = 0; order < 256; order++) {
            BlockPictures x = UnitBits.decoder(1, 0);
            UnitBits.key(order, 0).means(16).send(x, 5);
            Check.due("order " + order, x.heldState(0), 4 * order + 3);
        }
        // The lowest and the highest number with nine and with ten zeros, as levels 256, -511, 512 and nearly 1023.
        Check.due("number 511", seenLevel(0, new UnitBits().raw("000000000 1 000000000")), 64);
        Check.due("number 1022", seenLevel(255, new UnitBits().raw("000000000 1 111111111")), -128);
        Check.due("number 1023", seenLevel(0, new UnitBits().raw("0000000000 1 0000000000")), 128);
        Check.due("number 2031", seenLevel(0, new UnitBits().raw("0000000000 1 1111110000")), 254);
        Check.due("number 2046", seenLevel(255, new UnitBits().raw("0000000000 1 1111111111")), -255);
    }

    private static void elevenZeros() {
        Check.sentence("z above 10 is FAULT 5, as soon as the eleventh zero is read");
        for (BoundedNumbers.Spot spot : BoundedNumbers.spots()) {
            spot.reads("ten zeros and the end", "0000000000", 4);
            spot.reads("ten zeros, a 1, nine bits", "0000000000 1 000000000", 4);
            spot.reads("eleven zeros and the end", "00000000000", 5);
            spot.reads("eleven zeros and more", "00000000000 1 00000000000 11", 5);
        }
        // The 1 behind the data is no bit of a number.
        parameters(4, "0000000000");
        parameters(5, "00000000000");
    }

    private static void signed() {
        Check.sentence("SIGNED: a NUMBER k; (k + 1) / 2 when k is odd, -(k / 2) when even");
        int[][] rows = {{0, 0}, {1, 1}, {2, -1}, {3, 2}, {4, -2}, {5, 3}, {6, -3}, {125, 63}, {126, -63}, {127, 64}, {128, -64}};
        for (int[] row : rows) {
            BlockPictures x = BoundedNumbers.ready();
            UnitBits.next(3, 0).raw("10").number(row[0]).number(0).raw("0").copied(15).send(x, 1);
            Check.due("dx from number " + row[0], x.vector(0), 256 * (row[1] + 64) + 64);
        }
    }

    /** Data of units that use every kind of number there is. */
    private static List<BoundedNumbers.Spot> wholeUnits() {
        List<BoundedNumbers.Spot> units = new ArrayList<>();
        units.add(new BoundedNumbers.Spot("parameters", 7, UnitBits.parameters(4, 11), 0, 0));
        UnitBits key = UnitBits.key(200, 2).plain(77).raw("11").residual(3, -9).raw("01 0 11 0 10").residual(15, 700);
        units.add(new BoundedNumbers.Spot("a key picture", 5, key.means(11), 0, 0));
        UnitBits next = new UnitBits().number(100).signed(-3).number(2).raw("1").number(1).raw("1").number(2);
        next.raw("10").number(2).signed(-40).signed(33).residual(5, 4).copied(3).plainInNext(5).raw("11 01 0");
        next.raw("10").number(0).signed(3).signed(0).raw("0").raw("11 10").residual(0, 2).copied(1).raw("11 11 0").copied(6);
        units.add(new BoundedNumbers.Spot("a next picture", 0x41, next, 0, 0));
        return units;
    }

    private static void dataEnd() {
        Check.sentence("Where the data end before what is read, it is FAULT 4");
        for (BoundedNumbers.Spot unit : wholeUnits()) {
            String all = unit.before().text();
            for (int length = 0; length < all.length(); length++) {
                unit.is("cut to " + length + " bits", all.substring(0, length), 4);
            }
            unit.is("whole", all, 0);
        }
    }

    private static void dataLeft() {
        Check.sentence("Data left when a unit of type 1, 5 or 7 has been read to its end: FAULT 6");
        for (BoundedNumbers.Spot unit : wholeUnits()) {
            String all = unit.before().text();
            unit.is("whole", all, 0);
            unit.is("a bit 0 left", all + "0", 6);
            unit.is("a bit 1 left", all + "1", 6);
            unit.is("a byte left", all + "00000000", 6);
            unit.is("many zeros left", all + "000000000000000000000", 6);
        }
        // In a unit of another type whatever is left is not looked at.
        alone(0, 8, 0xFF, 0xFF, 0xFF);
    }

    private static void firstFaultCounts() {
        Check.sentence("each as soon as it is read, the first one counts");
        parameters(5, "00101");
        parameters(5, "00101 00000000000");
        parameters(4, "1");
        parameters(4, "1 0001 10");
        parameters(5, "1 0001101");
        parameters(5, "1 0001101 1");
        parameters(6, "1 1 00000000000");
        sent("order 256 and the end", UnitBits.decoder(1, 0), new UnitBits().number(256).unit(5), 5);
        sent("q 12, then mode 2", UnitBits.decoder(1, 11), UnitBits.key(1, 1).raw("10").unit(5), 5);
        sent("mode 2, then a wrong level", UnitBits.decoder(1, 0), UnitBits.key(1, 0).raw("10 1 1 1 1").unit(5), 9);
        sent("a wrong level, then mode 2", UnitBits.decoder(1, 0), UnitBits.key(1, 0).raw("01 1 1 1 1 10").unit(5), 5);
        sent("a 3, then order", BoundedNumbers.ready(), new UnitBits().number(256).signed(0).number(3).unit(1), 5);
        sent("a 3 and the end", BoundedNumbers.ready(), new UnitBits().number(1).signed(0).number(3).unit(1), 8);
        sent("order 256 without parameters", new BlockPictures(), new UnitBits().number(256).unit(5), 7);
        sent("order 256 without references", UnitBits.decoder(1, 0), new UnitBits().number(256).unit(1), 8);
    }

    private static void places() {
        Check.sentence("a NUMBER 0 .. 3, the buffer's places less 1");
        parameters(0, "1 1");
        parameters(0, "00100 1");
        parameters(5, "00101 1");
        for (int places = 1; places <= 4; places++) {
            BlockPictures x = UnitBits.decoder(places, 0);
            Pictures.key(x, 10);
            for (int k = 1; k < places; k++) {
                Pictures.other(x, 10 + k);
            }
            Check.due("all places taken, " + places, x.held(), places);
            Check.due("nothing shown yet", x.shown(), 0);
            Pictures.other(x, 20);
            Check.due("no place left, " + places, x.held(), places);
            Check.due("something shown", x.shown() > 0, true);
        }
    }

    private static void base() {
        Check.sentence("a NUMBER 0 .. 11, the BASE");
        for (int base = 0; base < 12; base++) {
            sent("base " + base, new BlockPictures(), UnitBits.parameters(1, base).unit(7), 0);
            // q is base + d and has to be 0 .. 11.
            sent("q is 11", UnitBits.decoder(1, base), UnitBits.key(1, 11 - base).means(16).unit(5), 0);
            sent("q is 12", UnitBits.decoder(1, base), UnitBits.key(1, 12 - base).means(16).unit(5), 5);
        }
        sent("base 12", new BlockPictures(), UnitBits.parameters(1, 12).unit(7), 5);
        sent("base 2046", new BlockPictures(), UnitBits.parameters(1, 2046).unit(7), 5);
    }

    private static void pendingInPlaceOfFormerOnes() {
        Check.sentence("They are PENDING then (in place of former pending ones)");
        BlockPictures x = UnitBits.decoder(4, 11);
        UnitBits.parameters(2, 3).send(x, 7);
        sent("the later base", x, UnitBits.key(10, 8).plain(10).means(15).unit(5), 0);
        Pictures.other(x, 11);
        Pictures.other(x, 12);
        Pictures.shows("two places", x, 10, 11);
        x = UnitBits.decoder(4, 11);
        UnitBits.parameters(2, 3).send(x, 7);
        sent("not the former base", x, UnitBits.key(10, -4).means(16).unit(5), 5);
    }

    private static void pendingUntilAKeyPicture() {
        Check.sentence("until a key picture takes them");
        BlockPictures x = UnitBits.decoder(1, 0);
        Pictures.key(x, 10);
        UnitBits.parameters(4, 11).send(x, 7);
        // A next picture has the places and the base of those that were taken.
        sent("a next picture", x, new UnitBits().number(20).signed(11).number(0).raw("0").copied(16).unit(1), 0);
        Check.due("one place", x.held(), 1);
        Check.due("what it shows", x.shown(), 2);
        sent("a key picture", x, UnitBits.key(30, -11).means(16).unit(5), 0);
        Pictures.other(x, 40);
        Check.due("four places", x.held(), 2);
        // A second key picture has them, too: they are taken, and pending no more.
        sent("the next key picture", x, UnitBits.key(50, -11).means(16).unit(5), 0);
        sent("base 11 for a next picture", x, new UnitBits().number(60).signed(1).unit(1), 5);
    }

    private static void otherTypes() {
        Check.sentence("Units of other types are passed over after byte 0 (their data are not looked at)");
        BlockPictures x = UnitBits.decoder(1, 0);
        int before = x.units();
        int count = 0;
        for (int type = 0; type < 32; type++) {
            if (type != 1 && type != 5 && type != 7) {
                Check.due("type " + type, UnitBits.sendBytes(x, new int[] {type, 255, 0, 0, 255}), 1);
                count++;
            }
        }
        Check.due("fault()", x.fault(), 0);
        Check.due("units()", x.units() - before, count);
        Check.due("held()", x.held(), 0);
        sent("the parameters are still pending", x, UnitBits.key(1, 11).means(16).unit(5), 0);
    }
}
