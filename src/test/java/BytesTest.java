/** Bytes to units, and promises 2 to 6: feed, end, reset, fault, units. */
public final class BytesTest {
    public static void main(String[] args) {
        counts();
        startCodes();
        marksInUnits();
        longUnits();
        stopped();
        ends();
        endsOfUnits();
        resets();
        Check.finish();
    }

    private static void counts() {
        for (int count : new int[] {0, 5, -1, -4, Integer.MAX_VALUE, Integer.MIN_VALUE}) {
            BlockPictures x = new BlockPictures();
            Check.due("feed(1, " + count + ")", x.feed(1, count), 0);
            x.feed(0x7F08, 1);
            Check.due("nothing was taken", x.end() + x.units(), 0);
        }
        // The highest of the count lowest bytes comes first; those above them are not looked at.
        BlockPictures x = new BlockPictures();
        Check.due("feed(0x55000001, 3)", x.feed(0x55000001, 3), 0);
        Check.due("feed(0x7F000008, 1)", x.feed(0x7F000008, 1), 0);
        Check.due("feed(0x77770000, 2)", x.feed(0x77770000, 2), 0);
        Check.due("feed(0xFFFFFF01, 1)", x.feed(0xFFFFFF01, 1), 1);
        Check.due("units()", x.units(), 1);
        Check.due("feed(0x09000000, 4)", x.feed(0x09000000, 4), 1);
        Check.due("feed(0x010A0000, 4)", x.feed(0x010A0000, 4), 0);
        Check.due("feed(0x01870000, 4)", x.feed(0x01870000, 4), 1);
        Check.due("units()", x.units(), 3);
        Check.due("feed(1, 1) ends one with a fault", x.feed(1, 1), 1);
        Check.due("fault()", x.fault(), 1);
        Check.due("units()", x.units(), 3);
    }

    private static void startCodes() {
        int[][] begins = {{0, 0, 1}, {0, 0, 0, 1}, {0, 0, 0, 0, 0, 0, 1}, {1, 0, 0, 1}, {0, 1, 0, 0, 1}, {0, 5, 0, 0, 1},
            {0, 0, 2, 0, 0, 1}, {0, 0, 3, 0, 0, 1}, {255, 0, 0, 1}, {0, 0, 1, 0, 0, 1}, {0, 0, 1, 0, 0, 0, 1}};
        for (int[] bytes : begins) {
            BlockPictures x = new BlockPictures();
            UnitBits.feed(x, bytes);
            UnitBits.feed(x, 8);
            x.end();
            Check.due("unit after " + java.util.Arrays.toString(bytes), x.units(), 1);
        }
        int[][] others = {{1}, {0, 1}, {0, 0, 2, 1}, {0, 0, 3, 1}, {0, 5, 0, 1}, {0, 0, 5, 1}, {0, 0}, {0, 0, 0, 2, 0, 1}};
        for (int[] bytes : others) {
            BlockPictures x = new BlockPictures();
            UnitBits.feed(x, bytes);
            UnitBits.feed(x, 8);
            x.end();
            Check.due("no unit after " + java.util.Arrays.toString(bytes), x.units() + x.fault(), 0);
        }
    }

    private static void marksInUnits() {
        BlockPictures x = new BlockPictures();
        Check.due("a unit with no bytes", UnitBits.feed(x, 0, 0, 1, 0, 0, 1, 0, 0, 0), 0);
        Check.due("is nothing", x.units(), 0);
        // Three zeros end a unit and count towards the next start code.
        Check.due("a unit and the start of the next", UnitBits.feed(x, 1, 8, 0, 0, 0, 1, 9, 0, 0, 0), 2);
        Check.due("units()", x.units(), 2);
        // The two zeros are not the unit's: byte 0 alone is left, so the data have no 1.
        Check.due("parameters without data", UnitBits.feed(x, 1, 7, 0, 0, 1), 1);
        Check.due("fault()", x.fault(), 4);
        x.reset();
        Check.due("a byte 2", UnitBits.feed(x, 0, 0, 1, 8, 0, 0, 2), 0);
        Check.due("is fault 2", x.fault(), 2);
        x.reset();
        Check.due("0, 2 is no mark", UnitBits.feed(x, 0, 0, 1, 8, 0, 2, 0, 1, 0, 3, 4, 0, 0, 4, 0, 0, 1), 1);
        Check.due("fault()", x.fault(), 0);
        // One unit ends in the call, then the next is dropped.
        UnitBits.feed(x, 8, 0, 0);
        Check.due("1, 0, 0, 2", UnitBits.feed(x, 1, 0, 0, 2), 1);
        Check.due("fault()", x.fault(), 2);
        Check.due("units()", x.units(), 2);
        // A byte 3 behind two zeros is dropped, and the zeros are counted anew: 7, 0, 0, 3 is not the end.
        x.reset();
        Check.due("3 is dropped", UnitBits.feed(x, 0, 0, 1, 8, 0, 0, 3, 0, 0, 3, 1, 0, 0, 3, 2, 0, 0, 1), 1);
        Check.due("fault()", x.fault(), 0);
        // Parameters 0 and 0 are the data 11; the byte 3 would be data left if it stayed.
        Check.due("3 is no data", UnitBits.feed(x, 7, 0xE0, 0, 0, 3, 0, 0, 1), 1);
        Check.due("fault()", x.fault(), 0);
        Check.due("3 behind one zero is data", UnitBits.feed(x, 7, 0xE0, 0, 3, 0, 0, 1), 1);
        Check.due("fault()", x.fault(), 6);
    }

    private static BlockPictures inLongUnit(int length) {
        BlockPictures x = new BlockPictures();
        UnitBits.feed(x, 0, 0, 1);
        for (int k = 0; k < length; k++) {
            UnitBits.feed(x, 8);
        }
        return x;
    }

    private static void longUnits() {
        BlockPictures x = inLongUnit(320);
        Check.due("320 bytes", x.fault(), 0);
        x.end();
        Check.due("are a unit", x.units(), 1);
        x = inLongUnit(321);
        Check.due("321 bytes", x.fault(), 3);
        Check.due("are none", x.units(), 0);
        x = inLongUnit(318);
        Check.due("318 bytes and a start code", UnitBits.feed(x, 0, 0, 1), 1);
        Check.due("fault()", x.fault(), 0);
        x = inLongUnit(319);
        Check.due("319 bytes and a start code", UnitBits.feed(x, 0, 0, 1), 0);
        Check.due("fault()", x.fault(), 3);
        x = inLongUnit(318);
        UnitBits.feed(x, 0, 0, 3);
        Check.due("a dropped byte is not one of the 320", x.fault(), 0);
        UnitBits.feed(x, 0);
        Check.due("one more is too many", x.fault(), 3);
        x = inLongUnit(318);
        UnitBits.feed(x, 0, 0, 4);
        Check.due("4 behind two zeros is one too many", x.fault(), 3);
    }

    private static void stopped() {
        BlockPictures x = inLongUnit(321);
        Check.due("feed when stopped", UnitBits.feed(x, 0, 0, 1, 8, 0, 0, 1), 0);
        Check.due("units() when stopped", x.units(), 0);
        Check.due("end() when stopped", x.end(), 0);
        Check.due("fault() when stopped", x.fault(), 3);
        x.write(7, 0, 0);
        Check.due("pass() when stopped", x.pass(), 0);
        // What comes behind a unit with a fault in the same call is not taken.
        x = new BlockPictures();
        UnitBits.feed(x, 0, 0, 1, 0x88, 0, 0);
        Check.due("one with a fault", UnitBits.feed(x, 1, 8, 0, 0), 1);
        Check.due("then nothing", UnitBits.feed(x, 1), 0);
        Check.due("fault()", x.fault(), 1);
    }

    private static void ends() {
        BlockPictures x = UnitBits.decoder(3, 0);
        UnitBits.key(9, 0).means(16).send(x, 5);
        UnitBits.next(4, 0).copied(16).send(x, 1);
        Check.due("held()", x.held(), 2);
        Check.due("end()", x.end(), 2);
        Check.due("held()", x.held(), 0);
        Check.due("order(0)", x.order(0), 9);
        Check.due("order(1)", x.order(1), 4);
        Check.due("units() stays", x.units(), 3);
        Check.due("end() again", x.end(), 0);
        Check.due("a key picture after end()", UnitBits.key(1, 0).means(16).send(x, 5), 1);
        Check.due("has no parameters", x.fault(), 7);
        x = UnitBits.decoder(3, 0);
        x.end();
        UnitBits.key(1, 0).means(16).send(x, 5);
        Check.due("pending ones are gone too", x.fault(), 7);
        x = UnitBits.decoder(3, 0);
        UnitBits.feed(x, 0, 0, 0);
        x.end();
        UnitBits.feed(x, 1, 8);
        x.end();
        Check.due("zeros are not counted over end()", x.units(), 1);
        Check.due("parameters after end()", UnitBits.parameters(1, 0).send(x, 7), 1);
        UnitBits.key(1, 0).means(16).send(x, 5);
        Check.due("are taken", x.held(), 1);
    }

    private static void endsOfUnits() {
        BlockPictures x = new BlockPictures();
        UnitBits.feed(x, 0, 0, 1);
        Check.due("end() in a unit with no bytes", x.end() + x.units(), 0);
        UnitBits.feed(x, 8);
        Check.due("is outside then", x.end() + x.units(), 0);
        UnitBits.feed(x, 0, 0, 1, 0, 0);
        Check.due("end() behind two zeros", x.end(), 0);
        Check.due("keeps them as bytes of the unit", x.units(), 1);
        // With one place the next picture of a lower order is shown by the unit, the key picture by end().
        x = UnitBits.decoder(1, 0);
        UnitBits.key(9, 0).means(16).send(x, 5);
        UnitBits.feed(x, UnitBits.framed(UnitBits.next(4, 0).copied(16).unit(1)));
        Check.due("shown() before end()", x.shown(), 0);
        Check.due("end() counts both", x.end(), 2);
        x = UnitBits.decoder(1, 0);
        UnitBits.key(9, 0).means(16).send(x, 5);
        UnitBits.feed(x, UnitBits.framed(UnitBits.next(4, 0).copied(15).unit(1)));
        Check.due("end() with a fault", x.end(), 0);
        Check.due("fault()", x.fault(), 4);
        Check.due("the others are not shown", x.held(), 1);
        Check.due("heldState(0)", x.heldState(0), 39);
        Check.due("end() again", x.end(), 0);
        Check.due("fault() stays", x.fault(), 4);
        Check.due("held() stays", x.held(), 1);
    }

    private static void resets() {
        BlockPictures x = UnitBits.decoder(2, 3);
        UnitBits.key(9, 0).plain(40).means(15).send(x, 5);
        UnitBits.next(4, 0).inter(1, 1).raw("0").copied(15).send(x, 1);
        x.draw(5, 77);
        x.write(5, 3, 0);
        UnitBits.key(2, 0).plain(90).means(15).send(x, 5);
        UnitBits.next(1, 0).inter(3, 1).raw("0").copied(15).send(x, 1);
        UnitBits.parameters(1, 1).send(x, 7);
        UnitBits.feed(x, 0, 0, 1, 8, 0);
        int count = 0;
        while (x.written(count) >= 0) {
            count++;
        }
        Check.due("something is shown", x.shown(), 2);
        Check.due("and held", x.held(), 2);
        Check.due("and moved", x.vector(0), 256 * 67 + 65);
        x.reset();
        Check.due("reset shown()", x.shown(), 0);
        Check.due("reset order(0)", x.order(0), -1);
        Check.due("reset sample(0)", x.sample(0), -1);
        Check.due("reset held()", x.held(), 0);
        Check.due("reset heldState(0)", x.heldState(0), -1);
        Check.due("reset units()", x.units(), 0);
        Check.due("reset vector(0)", x.vector(0), -1);
        Check.due("reset smoothed()", x.smoothed(), 0);
        Check.due("reset fault()", x.fault(), 0);
        Check.due("reset written(3)", x.written(3), 101);
        Check.due("reset written(count)", x.written(count), -1);
        Check.due("reset end()", x.end(), 0);
        Check.due("no unit is left", x.units(), 0);
        x.pass();
        x.end();
        Check.due("no parameters are left", x.fault(), 7);
        x.reset();
        Check.due("reset fault()", x.fault(), 0);
        UnitBits.parameters(1, 0).send(x, 7);
        x.write(5, 3, 0);
        x.pass();
        Check.due("the source stays", x.end(), 1);
        Check.due("sample(5)", x.sample(5), 77);
        parametersAndReset();
        // Zeros before reset() are no part of a start code.
        UnitBits.feed(x, 0, 0);
        x.reset();
        UnitBits.feed(x, 1, 8);
        x.end();
        Check.due("zeros before reset()", x.units(), 0);
        // A next picture finds no reference.
        UnitBits.next(4, 0).copied(16).send(x, 1);
        Check.due("no reference", x.fault(), 8);
    }

    private static void parametersAndReset() {
        BlockPictures x = UnitBits.decoder(1, 0);
        x.reset();
        UnitBits.key(1, 0).means(16).send(x, 5);
        Check.due("pending parameters are gone", x.fault(), 7);
        x = UnitBits.decoder(1, 0);
        UnitBits.key(1, 0).plain(100).plain(103).means(14).send(x, 5);
        Check.due("lines are smoothed", x.smoothed() > 0, true);
        x.reset();
        Check.due("reset smoothed()", x.smoothed(), 0);
        UnitBits.key(1, 0).means(16).send(x, 5);
        Check.due("taken parameters are gone", x.fault(), 7);
        Check.due("the picture was not decoded", x.smoothed() + x.held(), 0);
    }
}
