import java.util.ArrayList;
import java.util.List;

/** Every place of a unit where a NUMBER is read, with the highest one allowed there and the fault beyond. */
final class BoundedNumbers {
    private BoundedNumbers() {
    }

    /** The unit's byte 0 and the data before the number. */
    record Spot(String name, int head, UnitBits before, int highest, int beyond) {
        /** Ends the data behind the bits told. */
        void reads(String what, String bits, int fault) {
            is(what, before.text() + bits, fault);
        }

        /** Sends the unit with all its data to a decoder that is ready for it. */
        void is(String what, String data, int fault) {
            BlockPictures x = head % 32 == 7 ? new BlockPictures() : ready();
            int units = x.units();
            new UnitBits().raw(data).send(x, head);
            Check.due(name + ", " + what + ": fault()", x.fault(), fault);
            Check.due(name + ", " + what + ": units()", x.units() - units, fault == 0 ? 1 : 0);
        }
    }

    /** A decoder with base 5 that holds three references. */
    static BlockPictures ready() {
        BlockPictures x = UnitBits.decoder(4, 5);
        Pictures.key(x, 9);
        Pictures.reference(x, 10);
        Pictures.reference(x, 11);
        return x;
    }

    private static UnitBits after(UnitBits before, String bits) {
        return new UnitBits().raw(before.text()).raw(bits);
    }

    static List<Spot> spots() {
        List<Spot> spots = new ArrayList<>();
        spots.add(new Spot("the places", 7, new UnitBits(), 3, 5));
        spots.add(new Spot("the base", 7, new UnitBits().number(3), 11, 5));
        for (int head : new int[] {5, 0x21}) {
            spots.add(new Spot("the order", head, new UnitBits(), 255, 5));
            // Base 5: the number 11 is d = 6, 10 is d = -5; 12 is d = -6.
            spots.add(new Spot("d", head, new UnitBits().number(9), 11, 5));
        }
        addResidual(spots, "in a key picture", 5, UnitBits.key(9, 0).raw("01"));
        UnitBits head = new UnitBits().number(9).signed(0);
        spots.add(new Spot("a", 0x21, head, 2, 8));
        head = after(head, "011");
        spots.add(new Spot("k", 0x21, after(head, "1"), 2, 8));
        head = after(head, "0");
        spots.add(new Spot("m", 0x61, after(head, "1"), 2, 8));
        head = after(head, "0 10");
        spots.add(new Spot("r", 0x21, head, 2, 8));
        head = after(head, "1");
        // From the vector (0, 0): the number 127 is 64, 128 is -64, 129 is 65.
        spots.add(new Spot("dx", 0x21, head, 128, 5));
        spots.add(new Spot("dy", 0x21, after(head, "1"), 128, 5));
        addResidual(spots, "in a next picture", 0x21, after(head, "1 1"));
        return spots;
    }

    private static void addResidual(List<Spot> spots, String where, int head, UnitBits before) {
        UnitBits count = after(before, "1");
        spots.add(new Spot("the number of coefficients " + where, head, count, 15, 5));
        UnitBits passed = after(count, "010");
        spots.add(new Spot("the places passed over " + where, head, passed, 15, 5));
        spots.add(new Spot("the level " + where, head, after(passed, "1"), 2046, 5));
    }
}
