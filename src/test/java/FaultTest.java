/** A unit's bits and numbers, every fault, which one counts, and that a fault changes nothing else. */
public final class FaultTest {
    public static void main(String[] args) {
        heads();
        numbers();
        keyHeads();
        nextHeads();
        blocks();
        residuals();
        nothingDone();
        Check.finish();
    }

    private static void fresh(String what, int[] unit, int fault) {
        BlockPictures x = new BlockPictures();
        Check.due(what + ": ended", UnitBits.sendBytes(x, unit), 1);
        Check.due(what + ": fault()", x.fault(), fault);
        Check.due(what + ": units()", x.units(), fault == 0 ? 1 : 0);
    }

    private static void fresh(String what, String bits, int fault) {
        fresh(what, new UnitBits().raw(bits).unit(7), fault);
    }

    private static void heads() {
        for (int head = 128; head < 256; head++) {
            fresh("byte 0 is " + head, new UnitBits().raw("11").unit(head), 1);
        }
        for (int head = 0; head < 128; head++) {
            int type = head & 31;
            int[] faults = {0, 8, 0, 0, 0, 7, 0, 0};
            fresh("byte 0 is " + head, new UnitBits().raw("11").unit(head), type < 8 ? faults[type] : 0);
            boolean looked = type == 1 || type == 5 || type == 7;
            if (head > 0) {
                fresh("alone: " + head, new int[] {head}, looked ? 4 : 0);
                fresh("without a 1: " + head, new int[] {head, 0, 0, 0, 0}, looked ? 4 : 0);
            }
        }
    }

    private static void numbers() {
        // A 1 as the first bit: there is no data, but the unit is not without a 1.
        fresh("a key picture without data", new int[] {5, 0x80}, 7);
        fresh("a next picture without data", new int[] {1, 0x80}, 8);
        sent("a key picture without data", UnitBits.decoder(1, 0), new UnitBits(), 5, 4);
        sent("a next picture without data", withReferences(1), new UnitBits(), 1, 4);
        fresh("0, 0", "1 1", 0);
        fresh("3, 11", "00100 0001100", 0);
        fresh("no data at all", "", 4);
        fresh("one number", "1", 4);
        fresh("half a number", "1 00", 4);
        fresh("a number without its last bit", "1 0001 10", 4);
        fresh("4", "00101 1", 5);
        fresh("4 and no more", "00101", 5);
        fresh("0, 12", "1 0001101", 5);
        fresh("data left", "1 1 0", 6);
        fresh("much data left", "1 1 0111010101010101", 6);
        fresh("12 comes before data left", "1 0001101 1", 5);
        fresh("ten zeros and the end", "0000000000", 4);
        fresh("eleven zeros", "00000000000", 5);
        fresh("ten zeros and a number cut short", "0000000000 1 000000000", 4);
        fresh("2046", "0000000000 1 1111111111 1", 5);
        // The 1 behind the data is the last one of the unit, whatever zeros follow.
        fresh("zeros behind", new int[] {7, 0xE0, 0, 0, 0, 0}, 0);
        fresh("the mark in a byte of its own", new int[] {7, 0x23, 0x80}, 0);
        fresh("the mark as the last bit of a byte", new int[] {7, 0x23}, 4);
        fresh("eight bits of data", new int[] {7, 0x44, 0x80}, 0);
    }

    /** A decoder with base 5 that holds key pictures' references as many as told. */
    private static BlockPictures withReferences(int count) {
        BlockPictures x = UnitBits.decoder(4, 5);
        UnitBits.key(9, 0).plain(40).means(15).send(x, 5);
        for (int k = 1; k < count; k++) {
            new UnitBits().number(9 + k).signed(0).number(0).raw("0 0").copied(16).send(x, 0x21);
        }
        Check.due("references are held", x.held(), count);
        return x;
    }

    private static void sent(String what, BlockPictures x, UnitBits bits, int head, int fault) {
        int before = x.units();
        Check.due(what + ": ended", bits.send(x, head), 1);
        Check.due(what + ": fault()", x.fault(), fault);
        Check.due(what + ": units()", x.units() - before, fault == 0 ? 1 : 0);
    }

    private static void keyHeads() {
        sent("order 255", UnitBits.decoder(1, 0), UnitBits.key(255, 0).means(16), 5, 0);
        sent("order 256", UnitBits.decoder(1, 0), new UnitBits().number(256), 5, 5);
        sent("order only", UnitBits.decoder(1, 0), new UnitBits().number(255), 5, 4);
        sent("q is -1", UnitBits.decoder(1, 0), UnitBits.key(1, -1), 5, 5);
        sent("q is 0", UnitBits.decoder(1, 5), UnitBits.key(1, -5).means(16), 5, 0);
        sent("q is 11", UnitBits.decoder(1, 5), UnitBits.key(1, 6).means(16), 5, 0);
        sent("q is 12", UnitBits.decoder(1, 5), UnitBits.key(1, 7), 5, 5);
        sent("data left", UnitBits.decoder(1, 5), UnitBits.key(1, 0).means(16).raw("0"), 5, 6);
        sent("15 blocks", UnitBits.decoder(1, 5), UnitBits.key(1, 0).means(15), 5, 4);
        sent("no block", UnitBits.decoder(1, 5), UnitBits.key(1, 0), 5, 4);
        sent("no parameters", new BlockPictures(), UnitBits.key(1, 0).means(16), 5, 7);
        sent("no parameters and a wrong order", new BlockPictures(), UnitBits.key(256, 0), 5, 7);
        // The base of pending parameters counts for a key picture, that of the taken ones for a next picture.
        BlockPictures x = UnitBits.decoder(1, 0);
        UnitBits.key(1, 0).means(16).send(x, 5);
        UnitBits.parameters(1, 11).send(x, 7);
        sent("the taken base", x, new UnitBits().number(2).signed(11).number(0).raw("0").copied(16), 1, 0);
        UnitBits.parameters(1, 10).send(x, 7);
        sent("the last pending base", x, UnitBits.key(1, 1).means(16), 5, 0);
        sent("the base now taken", x, UnitBits.key(1, 2), 5, 5);
        x = UnitBits.decoder(1, 4);
        UnitBits.key(1, 0).means(16).send(x, 5);
        sent("the taken base for a key picture", x, UnitBits.key(1, 7).means(16), 5, 0);
    }

    private static UnitBits head(int order) {
        return new UnitBits().number(order).signed(0);
    }

    private static void nextHeads() {
        sent("no references", UnitBits.decoder(1, 0), UnitBits.next(1, 0).copied(16), 1, 8);
        sent("order 256", withReferences(1), new UnitBits().number(256), 1, 5);
        sent("q is 12", withReferences(1), new UnitBits().number(1).signed(7), 1, 5);
        sent("a is 0", withReferences(1), head(1).number(0).raw("0").copied(16), 1, 0);
        sent("a is 1 of 1", withReferences(1), head(1).number(1), 1, 8);
        sent("a is 1 of 2", withReferences(2), head(1).number(1).raw("0").copied(16), 1, 0);
        sent("a is 2 of 2", withReferences(2), head(1).number(2), 1, 8);
        sent("a with eleven zeros", withReferences(2), head(1).raw("00000000000"), 1, 5);
        sent("k is 0 of 1", withReferences(1), head(1).number(0).raw("1").number(0).copied(16), 1, 0);
        sent("k is 1 of 1", withReferences(1), head(1).number(0).raw("1").number(1), 1, 8);
        sent("k is 2 of 3", withReferences(3), head(1).number(0).raw("1").number(2).copied(16), 1, 0);
        sent("k is 3 of 3", withReferences(3), head(1).number(0).raw("1").number(3), 1, 8);
        sent("m is 0 of 1", withReferences(1), head(1).number(0).raw("0 1").number(0).copied(16), 0x21, 0);
        sent("m is 1 of 1", withReferences(1), head(1).number(0).raw("0 1").number(1), 0x41, 8);
        sent("m is 3 of 4", withReferences(4), head(1).number(0).raw("0 1").number(3).copied(16), 0x61, 0);
        sent("m is 4 of 4", withReferences(4), head(1).number(0).raw("0 1").number(4), 0x61, 8);
        sent("rank 0 has no m", withReferences(1), head(1).number(0).raw("0").copied(16), 1, 0);
        sent("rank 1 has the bit", withReferences(1), head(1).number(0).raw("0").copied(16), 0x21, 4);
        sent("data left", withReferences(1), UnitBits.next(1, 0).copied(17), 1, 6);
    }

    private static void blocks() {
        sent("r is 1 of 0, 1", withReferences(2), UnitBits.next(1, 1).raw("10").number(1).raw("1 1 0").copied(15), 1, 0);
        sent("r is 2 of 0, 1", withReferences(3), UnitBits.next(1, 1).raw("10").number(2), 1, 8);
        sent("vx is 64", withReferences(1), UnitBits.next(1, 0).inter(64, -64).raw("0").copied(15), 1, 0);
        sent("vx is -64", withReferences(1), UnitBits.next(1, 0).inter(-64, 64).raw("0").copied(15), 1, 0);
        sent("vx is 65", withReferences(1), UnitBits.next(1, 0).raw("10").signed(65), 1, 5);
        sent("vx is -65", withReferences(1), UnitBits.next(1, 0).raw("10").signed(-65), 1, 5);
        sent("vy is 65", withReferences(1), UnitBits.next(1, 0).inter(0, 65), 1, 5);
        sent("vy is -65", withReferences(1), UnitBits.next(1, 0).inter(0, -65), 1, 5);
        sent("vx is 60 + 5", withReferences(1), UnitBits.next(1, 0).inter(60, 0).raw("0 10").signed(5), 1, 5);
        sent("vx is 60 - 124", withReferences(1),
            UnitBits.next(1, 0).inter(60, 0).raw("0").inter(-124, 0).raw("0").copied(14), 1, 0);
        sent("1023", withReferences(1), UnitBits.next(1, 0).raw("10").signed(1023), 1, 5);
        for (int n = 0; n < 16; n++) {
            BlockPictures x = UnitBits.decoder(1, 0);
            UnitBits bits = UnitBits.key(1, 0).means(n).raw("10");
            sent("mode 2 in block " + n, x, n < 4 ? bits : bits.raw("0").means(15 - n), 5, n < 4 ? 9 : 0);
            x = UnitBits.decoder(1, 0);
            bits = UnitBits.key(1, 0).means(n).raw("11");
            sent("mode 3 in block " + n, x, n % 4 == 0 ? bits : bits.raw("0").means(15 - n), 5, n % 4 == 0 ? 9 : 0);
        }
        sent("mode 0 cut short", UnitBits.decoder(1, 0), UnitBits.key(1, 0).raw("00 0101"), 5, 4);
        sent("mode 2 in a next picture", withReferences(1), UnitBits.next(1, 0).raw("11 10"), 1, 9);
    }

    private static UnitBits firstBlock(String bits) {
        return UnitBits.key(1, 0).raw("01").raw(bits);
    }

    private static void residuals() {
        UnitBits all = firstBlock("1").number(15);
        for (int k = 0; k < 16; k++) {
            all.number(0).signed(k % 2 == 0 ? 1 : -1);
        }
        sent("16 coefficients", UnitBits.decoder(1, 0), all.means(15), 5, 0);
        sent("17 coefficients", UnitBits.decoder(1, 0), firstBlock("1").number(16), 5, 5);
        sent("place 15", UnitBits.decoder(1, 0), firstBlock("").residual(15, 1).means(15), 5, 0);
        sent("place 16", UnitBits.decoder(1, 0), firstBlock("1").number(0).number(16), 5, 5);
        sent("place 16 behind place 15", UnitBits.decoder(1, 0),
            firstBlock("1").number(1).number(15).signed(2).number(0), 5, 5);
        sent("place 10 + 1 + 5", UnitBits.decoder(1, 0),
            firstBlock("1").number(1).number(10).signed(2).number(5), 5, 5);
        sent("place 10 + 1 + 4", UnitBits.decoder(1, 0),
            firstBlock("1").number(1).number(10).signed(2).number(4).signed(1).means(15), 5, 0);
        sent("level 0", UnitBits.decoder(1, 0), firstBlock("1").number(0).number(0).signed(0), 5, 5);
        sent("level 1023", UnitBits.decoder(1, 0), firstBlock("").residual(0, 1023).means(15), 5, 0);
        sent("level -1023", UnitBits.decoder(1, 0), firstBlock("").residual(0, -1023).means(15), 5, 0);
        sent("a level with eleven zeros", UnitBits.decoder(1, 0), firstBlock("1 1 1 00000000000"), 5, 5);
        sent("no level", UnitBits.decoder(1, 0), firstBlock("1 1 1"), 5, 4);
        sent("fewer coefficients than told", UnitBits.decoder(1, 0), firstBlock("1").number(1).number(0).signed(1), 5, 4);
    }

    private static void nothingDone() {
        BlockPictures x = UnitBits.decoder(2, 0);
        UnitBits.key(9, 0).plain(100).plain(103).means(14).send(x, 5);
        UnitBits.next(7, 0).inter(3, -2).raw("0").copied(15).send(x, 1);
        UnitBits.next(5, 0).inter(3, -2).raw("0").plainInNext(104).copied(14).send(x, 1);
        Check.due("one was shown", x.shown(), 1);
        Check.due("lines were smoothed", x.smoothed() > 0, true);
        int[] before = look(x);
        // All blocks are there and would be filtered; the data that are left undo it all.
        UnitBits.key(3, 0).plain(50).plain(53).means(14).raw("1").send(x, 5);
        Check.due("data left", x.fault(), 6);
        int[] after = look(x);
        for (int k = 0; k < before.length; k++) {
            Check.due("a fault changed answer " + k, after[k], before[k]);
        }
    }

    private static int[] look(BlockPictures x) {
        int[] seen = new int[250];
        int count = 0;
        seen[count++] = x.units();
        seen[count++] = x.shown();
        seen[count++] = x.held();
        seen[count++] = x.smoothed();
        for (int k = 0; k < 16; k++) {
            seen[count++] = x.vector(k);
            seen[count++] = x.order(k);
            seen[count++] = x.heldState(k);
        }
        for (int i = 0; i < 256; i += 7) {
            seen[count++] = x.sample(i);
            seen[count++] = x.heldSample(0, i);
            seen[count++] = x.heldSample(1, i);
            seen[count++] = x.heldSample(2, i);
        }
        return seen;
    }
}
