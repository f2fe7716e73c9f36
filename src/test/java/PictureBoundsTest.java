import java.util.function.IntBinaryOperator;

/** The boundary cases of "A PICTURE UNIT", a method for each sentence. */
public final class PictureBoundsTest {
    public static void main(String[] args) {
        noParameters();
        noReferences();
        references();
        numbersWithBounds();
        order();
        q();
        usedReferences();
        firstOfTheList();
        releaseBit();
        released();
        copiedOrInterOrIntra();
        plainSamples();
        meanOfNeighbours();
        rounding();
        fromAbove();
        fromTheLeft();
        copied();
        oneReferenceUsed();
        vectors();
        blockWithoutAbove();
        cornerBlock();
        blocksWithoutVector();
        samplesBeyondThePicture();
        halfSamplesBeyondThePicture();
        halfSamplesRounded();
        limits();
        coefficients();
        placesOfTheBlock();
        levels();
        othersAreZero();
        sumRounded();
        limitOfTheSum();
        Check.finish();
    }

    private static BlockPictures sent(String what, BlockPictures x, UnitBits bits, int head, int fault) {
        bits.send(x, head);
        Check.due(what + ", fault()", x.fault(), fault);
        return x;
    }

    /** A decoder of four places and base 5 that holds so many references: 9, 10, 11, 12. */
    private static BlockPictures holding(int count) {
        BlockPictures x = UnitBits.decoder(4, 5);
        Pictures.key(x, 9);
        for (int k = 1; k < count; k++) {
            Pictures.reference(x, 9 + k);
        }
        Check.due("held()", x.held(), count);
        return x;
    }

    private static UnitBits head(int order) {
        return new UnitBits().number(order).signed(0);
    }

    private static void noParameters() {
        Check.sentence("Type 5: when there are neither pending parameters nor any taken, FAULT 7");
        UnitBits key = UnitBits.key(9, 0).means(16);
        sent("none at all", new BlockPictures(), key, 5, 7);
        BlockPictures x = sent("pending ones", UnitBits.decoder(1, 0), key, 5, 0);
        sent("taken ones", x, key, 5, 0);
        x.end();
        sent("none after end()", x, key, 5, 7);
        x = UnitBits.decoder(1, 0);
        x.reset();
        sent("none after reset()", x, key, 5, 7);
    }

    private static void noReferences() {
        Check.sentence("Type 1: when the buffer has no references, FAULT 8");
        UnitBits next = UnitBits.next(9, 0).copied(16);
        sent("a new object", new BlockPictures(), next, 1, 8);
        sent("parameters alone", UnitBits.decoder(4, 0), next, 1, 8);
        BlockPictures x = UnitBits.decoder(1, 0);
        Pictures.key(x, 9);
        sent("one reference", x, next, 1, 0);
        x.end();
        UnitBits.parameters(4, 0).send(x, 7);
        sent("after end()", x, next, 1, 8);
        x = holding(1);
        x.reset();
        sent("after reset()", x, next, 1, 8);
    }

    private static void references() {
        Check.sentence("The REFERENCES are the pictures of the buffer that are marked so, by latest decoded first");
        // 10 waits and is none; 9 and 11 are.
        BlockPictures x = holding(1);
        Pictures.other(x, 10);
        Pictures.reference(x, 11);
        Check.due("three are held", x.held(), 3);
        sent("reference 1", x, UnitBits.next(20, 1).raw("10").number(1).raw("1 1 0").copied(15), 1, 0);
        Check.due("the earlier one", x.heldSample(3, 0), 9);
        Check.due("the later one", x.heldSample(3, 255), 11);
        sent("a is 2", x, head(20).number(2), 1, 8);
    }

    private static void numbersWithBounds() {
        for (BoundedNumbers.Spot spot : BoundedNumbers.spots()) {
            Check.sentence("every number that has a bound: " + spot.name() + ", at most " + spot.highest());
            boolean level = spot.name().startsWith("the level");
            for (int value = level ? 1 : 0; value <= spot.highest(); value += value < 40 ? 1 : 43) {
                reads(spot, value, spot.name().equals("the base") ? 0 : 4);
            }
            reads(spot, spot.highest(), spot.name().equals("the base") ? 0 : 4);
            for (int value : new int[] {spot.highest() + 1, spot.highest() + 2, 600, 1022, 1023, 2046}) {
                if (value > spot.highest() && value < 2047) {
                    reads(spot, value, spot.beyond());
                }
            }
        }
    }

    /** The data end behind the number, so that one that is allowed is followed by FAULT 4. */
    private static void reads(BoundedNumbers.Spot spot, int value, int fault) {
        spot.reads("number " + value, new UnitBits().number(value).text(), fault);
    }

    private static void order() {
        Check.sentence("a NUMBER 0 .. 255, the ORDER");
        for (int order : new int[] {0, 1, 254, 255}) {
            BlockPictures x = UnitBits.decoder(2, 0);
            sent("key", x, UnitBits.key(order, 0).means(16), 5, 0);
            sent("next", x, UnitBits.next(order, 0).copied(16), 1, 0);
            Check.due("heldState(0)", x.heldState(0), 4 * order + 3);
            Check.due("heldState(1)", x.heldState(1), 4 * order + 2);
        }
        sent("key 256", UnitBits.decoder(2, 0), UnitBits.key(256, 0).means(16), 5, 5);
        sent("next 256", holding(1), UnitBits.next(256, 0).copied(16), 1, 5);
    }

    private static void q() {
        Check.sentence("q is the base plus d, must be 0 .. 11");
        for (int d = -8; d <= 8; d++) {
            int fault = d < -5 || d > 6 ? 5 : 0;
            sent("key, d " + d, UnitBits.decoder(1, 5), UnitBits.key(9, d).means(16), 5, fault);
            UnitBits next = new UnitBits().number(9).signed(d).number(0).raw("0").copied(16);
            sent("next, d " + d, holding(1), next, 1, fault);
        }
        sent("0 + 0", UnitBits.decoder(1, 0), UnitBits.key(9, 0).means(16), 5, 0);
        sent("0 - 1", UnitBits.decoder(1, 0), UnitBits.key(9, -1).means(16), 5, 5);
        sent("11 + 0", UnitBits.decoder(1, 11), UnitBits.key(9, 0).means(16), 5, 0);
        sent("11 + 1", UnitBits.decoder(1, 11), UnitBits.key(9, 1).means(16), 5, 5);
        sent("0 + 1023", UnitBits.decoder(1, 0), UnitBits.key(9, 1023).means(16), 5, 5);
        sent("11 - 1023", UnitBits.decoder(1, 11), UnitBits.key(9, -1023).means(16), 5, 5);
    }

    private static void usedReferences() {
        Check.sentence("a NUMBER a, less than the number of references, else FAULT 8");
        for (int count = 1; count <= 4; count++) {
            for (int a = 0; a <= 5; a++) {
                sent(a + " of " + count, holding(count), UnitBits.next(20, a).copied(16), 1, a < count ? 0 : 8);
            }
        }
    }

    private static void firstOfTheList() {
        Check.sentence("if 1, a NUMBER k, less than the number of references, else FAULT 8; only the first a + 1 are used");
        for (int count = 1; count <= 4; count++) {
            for (int k = 0; k <= 5; k++) {
                UnitBits bits = head(20).number(0).raw("1").number(k).copied(16);
                BlockPictures x = sent(k + " of " + count, holding(count), bits, 0x1, k < count ? 0 : 8);
                if (k < count && count < 4) {
                    Check.due("copied from reference " + k, x.heldSample(count, 0), 9 + count - 1 - k);
                }
            }
        }
        // Of four, k = 3: the list is 9, 12, 11, 10.
        int[] list = {9, 12, 11, 10};
        for (int r = 0; r < 4; r++) {
            UnitBits bits = head(0).number(3).raw("1").number(3).raw("10").number(r).raw("1 1 0").copied(15);
            BlockPictures x = sent("r is " + r, holding(4), bits, 1, 0);
            Check.due("shown at once", x.shown(), 1);
            Check.due("reference " + r + " of the list", x.sample(0), list[r]);
        }
    }

    private static void releaseBit() {
        Check.sentence("For type 1 with rank above 0: BITS(1): if 1, a NUMBER m, less than the number of references, else FAULT 8");
        for (int rank = 0; rank < 4; rank++) {
            int type = rank << 5 | 1;
            sent("rank " + rank + ", no bit", holding(1), head(20).number(0).raw("0").copied(16), type, rank == 0 ? 0 : 4);
            sent("rank " + rank + ", a bit", holding(1), head(20).number(0).raw("0 0").copied(16), type, rank == 0 ? 6 : 0);
        }
        for (int count = 1; count <= 4; count++) {
            for (int m = 0; m <= 5; m++) {
                UnitBits bits = head(20).number(0).raw("0 1").number(m).copied(16);
                sent(m + " of " + count, holding(count), bits, 0x21, m < count ? 0 : 8);
            }
        }
    }

    private static void released() {
        Check.sentence("reference m (by latest decoded first, whatever k is) is to be RELEASED");
        for (int k = 0; k < 3; k++) {
            for (int m = 0; m < 3; m++) {
                UnitBits bits = head(20).number(0).raw("1").number(k).raw("1").number(m).copied(16);
                BlockPictures x = sent("k " + k + ", m " + m, holding(3), bits, 0x21, 0);
                for (int at = 0; at < 3; at++) {
                    Check.due("heldState(" + at + ")", x.heldState(at), 4 * (9 + at) + (at == 2 - m ? 2 : 3));
                }
            }
        }
    }

    private static void copiedOrInterOrIntra() {
        Check.sentence("In type 5 a block is INTRA. In type 1: BITS(1): 0: the block is INTER, COPIED; else BITS(1)");
        BlockPictures x = sent("key", UnitBits.decoder(2, 0), UnitBits.key(9, 0).plain(9).means(15), 5, 0);
        Check.due("vector(0) of a key picture", x.vector(0), -1);
        UnitBits bits = UnitBits.next(20, 0).raw("0").raw("10 1 1 0").raw("11 01 0").copied(13);
        sent("next", x, bits, 1, 0);
        Check.due("0", x.vector(0), 256 * 64 + 64);
        Check.due("10", x.vector(1), 256 * 64 + 64);
        Check.due("11", x.vector(2), -1);
    }

    private static void plainSamples() {
        Check.sentence("0: sixteen BITS(8) are the samples, row by row; it has no residual");
        UnitBits bits = UnitBits.key(9, 0).raw("00");
        for (int k = 0; k < 16; k++) {
            bits.bits(17 * k, 8);
        }
        // The next two bits are the mode of block 1 already, be they 01 or 10.
        BlockPictures x = sent("plain", UnitBits.decoder(1, 0), new UnitBits().raw(bits.text()).means(15), 5, 0);
        for (int k = 0; k < 16; k++) {
            Check.due("sample " + k, x.heldSample(0, 16 * (k / 4) + k % 4), 17 * k);
        }
        sent("mode 2 behind it", UnitBits.decoder(1, 0), new UnitBits().raw(bits.text()).raw("10"), 5, 9);
        sent("a sample less", UnitBits.decoder(1, 0), UnitBits.key(9, 0).raw("00").bits(0, 127), 5, 4);
    }

    /** A key picture up to block n: the one above has 40, the one to the left 80, the others 200. */
    private static UnitBits before(int n) {
        UnitBits bits = UnitBits.key(9, 0);
        for (int k = 0; k < n; k++) {
            bits.plain(k == n - 4 ? 40 : k == n - 1 && n % 4 > 0 ? 80 : 200);
        }
        return bits;
    }

    /** A sample of block n that no edge touches. */
    private static int inner(BlockPictures x, int n) {
        return x.heldSample(0, 16 * (4 * (n / 4) + 1) + 4 * (n % 4) + 1);
    }

    private static void meanOfNeighbours() {
        Check.sentence("when only one of these blocks is in the picture, (sum + 2) >> 2 of its four; 128 when neither is");
        for (int n = 0; n < 16; n++) {
            boolean above = n >= 4;
            boolean left = n % 4 > 0;
            BlockPictures x = sent("block " + n, UnitBits.decoder(1, 0), before(n).raw("01 0").means(15 - n), 5, 0);
            Check.due("mean in block " + n, inner(x, n), above && left ? 60 : above ? 40 : left ? 80 : 128);
        }
    }

    private static void rounding() {
        Check.sentence("(sum + 4) >> 3; (sum + 2) >> 2");
        for (int more = 0; more <= 8; more++) {
            int sum = more;
            // The last column of block 0, top to bottom, has a sum of 400 + more, the lowest row has it, too.
            UnitBits bits = UnitBits.key(9, 0);
            bits.block(0, (x, y) -> 100 + (x == 3 ? part(sum, 3 - y) : y == 3 ? part(sum, 3 - x) : 0));
            BlockPictures x = sent("one block", UnitBits.decoder(1, 0), bits.means(1).plain(9).plain(9).means(12), 5, 0);
            Check.due("left alone, 400 + " + more, inner(x, 1), 100 + (more + 2) / 4);
            Check.due("above alone, 400 + " + more, inner(x, 4), 100 + (more + 2) / 4);
            // Above block 5 the sum is 400 + more, to its left 400.
            bits = UnitBits.key(9, 0).plain(9).block(1, (c, r) -> 100 + (r == 3 ? part(sum, c - 4) : 0));
            bits.plain(9).plain(9).plain(100).means(11);
            x = sent("both blocks", UnitBits.decoder(1, 0), bits, 5, 0);
            Check.due("both, 800 + " + more, inner(x, 5), 100 + (more + 4) / 8);
        }
    }

    /** A part of the sum for one of four samples. */
    private static int part(int sum, int k) {
        return sum / 4 + (k < sum % 4 ? 1 : 0);
    }

    private static void fromAbove() {
        Check.sentence("2: when there is no block above, FAULT 9 at once");
        for (int n = 0; n < 16; n++) {
            if (n < 4) {
                sent("at once in block " + n, UnitBits.decoder(1, 0), before(n).raw("10"), 5, 9);
                sent("in block " + n, UnitBits.decoder(1, 0), before(n).raw("10 0").means(15 - n), 5, 9);
                UnitBits next = UnitBits.next(9, 0).copied(n).raw("11 10");
                sent("in a next picture", holding(1), next, 1, 9);
            } else {
                BlockPictures x = sent("block " + n, UnitBits.decoder(1, 0), before(n).raw("10 0").means(15 - n), 5, 0);
                Check.due("from above block " + n, inner(x, n), 40);
            }
        }
    }

    private static void fromTheLeft() {
        Check.sentence("3: no block to the left: FAULT 9 at once");
        for (int n = 0; n < 16; n++) {
            if (n % 4 == 0) {
                sent("at once in block " + n, UnitBits.decoder(1, 0), before(n).raw("11"), 5, 9);
                sent("in block " + n, UnitBits.decoder(1, 0), before(n).raw("11 0").means(15 - n), 5, 9);
                UnitBits next = UnitBits.next(9, 0).copied(n).raw("11 11");
                sent("in a next picture", holding(1), next, 1, 9);
            } else {
                BlockPictures x = sent("block " + n, UnitBits.decoder(1, 0), before(n).raw("11 0").means(15 - n), 5, 0);
                Check.due("from the left of block " + n, inner(x, n), 80);
            }
        }
    }

    private static int pair(int vx, int vy) {
        return 256 * (vx + 64) + vy + 64;
    }

    private static void copied() {
        Check.sentence("COPIED: r is 0, the vector is the predicted one, no residual");
        // Block 0 is of reference 1 with a vector; block 1 has the vector but is of reference 0.
        UnitBits bits = UnitBits.next(20, 1).raw("10").number(1).signed(6).signed(-8).raw("0").copied(15);
        BlockPictures x = sent("copied", holding(2), bits, 1, 0);
        Check.due("block 0", x.heldSample(2, 0), 9);
        Check.due("block 1", x.heldSample(2, 5), 10);
        Check.due("vector(1)", x.vector(1), pair(6, -8));
        // Nothing of the blocks of earlier pictures is left: two rounds, as what was latest may be used again.
        x = holding(2);
        for (int round = 0; round < 3; round++) {
            sent("reference 1", x, UnitBits.next(0, 1).raw("10").number(1).signed(0).signed(0).raw("0").copied(15), 1, 0);
            Check.due("vector(0)", x.vector(0), pair(0, 0));
        }
        for (int round = 0; round < 3; round++) {
            sent("all copied, q 6", x, new UnitBits().number(0).signed(1).number(1).raw("0").copied(16), 1, 0);
            Check.due("all of reference 0: smoothed()", x.smoothed(), 0);
            Check.due("block 0", x.heldSample(x.held() - 1, 0), 10);
        }
        // No bit of a residual: the fifteenth bit behind block 0 is block 15.
        sent("a bit more", holding(1), UnitBits.next(20, 0).copied(17), 1, 6);
        sent("a bit less", holding(1), UnitBits.next(20, 0).copied(15), 1, 4);
    }

    private static void oneReferenceUsed() {
        Check.sentence("when a is above 0, a NUMBER r, at most a, else FAULT 8 (r is 0 when a is 0)");
        for (int a = 0; a < 4; a++) {
            for (int r = 0; r <= 4; r++) {
                UnitBits bits = UnitBits.next(0, a).raw("10");
                if (a > 0) {
                    bits.number(r);
                }
                bits.raw("1 1 0").copied(15);
                BlockPictures x = sent("a " + a + ", r " + r, holding(4), bits, 1, a == 0 || r <= a ? 0 : 8);
                if (x.fault() == 0) {
                    Check.due("the reference", x.sample(0), a == 0 ? 12 : 12 - r);
                }
            }
        }
    }

    private static void vectors() {
        Check.sentence("vx is the predicted vx plus dx, -64 .. 64; vy likewise");
        for (int v : new int[] {-66, -65, -64, -63, 63, 64, 65, 66}) {
            int fault = v < -64 || v > 64 ? 5 : 0;
            BlockPictures x = sent("vx " + v, holding(1), UnitBits.next(20, 0).inter(v, 0).raw("0").copied(15), 1, fault);
            Check.due("vector(0)", x.vector(0), fault == 0 ? pair(v, 0) : -1);
            x = sent("vy " + v, holding(1), UnitBits.next(20, 0).inter(0, v).raw("0").copied(15), 1, fault);
            Check.due("vector(0)", x.vector(0), fault == 0 ? pair(0, v) : -1);
            // The bound is on the sum: the predicted one is 64 or -64 here.
            int from = v < 0 ? -64 : 64;
            UnitBits bits = UnitBits.next(20, 0).inter(from, from).raw("0");
            sent("from " + from + " to " + v, holding(1), bits.inter(v - from, 0).raw("0").copied(14), 1, fault);
            bits = UnitBits.next(20, 0).inter(from, from).raw("0");
            sent("from " + from + " to " + -from, holding(1), bits.inter(-2 * from, 0).raw("0").copied(14), 1, 0);
            bits = UnitBits.next(20, 0).inter(from, from).raw("0");
            sent("vy from " + from + " to " + v, holding(1), bits.inter(0, v - from).raw("0").copied(14), 1, fault);
        }
        // dx is looked at before dy is read.
        sent("dx alone", holding(1), UnitBits.next(20, 0).raw("10").signed(65), 1, 5);
        sent("dx alone", holding(1), UnitBits.next(20, 0).raw("10").signed(64), 1, 4);
    }

    private static void blockWithoutAbove() {
        Check.sentence("When B is not in the picture: A's vector");
        UnitBits bits = UnitBits.next(20, 0).copied(1).inter(5, -3).raw("0").copied(1).inter(-9, 1).raw("0").copied(12);
        BlockPictures x = sent("the first row", holding(1), bits, 1, 0);
        Check.due("vector(0), no A", x.vector(0), pair(0, 0));
        Check.due("vector(1), A (0, 0)", x.vector(1), pair(5, -3));
        Check.due("vector(2), A (5, -3)", x.vector(2), pair(5, -3));
        Check.due("vector(3), A (5, -3)", x.vector(3), pair(-4, -2));
    }

    private static void cornerBlock() {
        Check.sentence("C the one to the right of B, or, when that is not in the picture, the one to the left of B");
        // Blocks 0 .. 3: (20, 20), (2, 2), (6, 6), (10, 10).
        UnitBits row = UnitBits.next(20, 0).inter(20, 20).raw("0").inter(-18, -18).raw("0");
        row.inter(4, 4).raw("0").inter(4, 4).raw("0");
        // Block 4: no A, B (20, 20), C (2, 2): (2, 2), and here (-30, -30).
        row.inter(-32, -32).raw("0");
        // Block 5: A (-30, -30), B (2, 2), C (6, 6): (2, 2). Block 6: A (2, 2), B (6, 6), C (10, 10): (6, 6), and here (8, 8).
        row.copied(1).inter(2, 2).raw("0");
        // Block 7: A (8, 8), B (10, 10), no C, to the left of B (6, 6): (8, 8), and here (0, 0).
        row.inter(-8, -8).raw("0");
        // Block 8: no A, B (-30, -30), C (2, 2): (0, 0). Blocks 9, 10: (0, 0), (2, 2), (8, 8) and (2, 2), (8, 8), (0, 0).
        row.copied(3);
        // Block 11: A (2, 2), B (0, 0), no C, to the left of B (8, 8): (2, 2).
        row.copied(5);
        BlockPictures x = sent("all rows", holding(1), row, 1, 0);
        int[] due = {20, 2, 6, 10, -30, 2, 8, 0, 0, 2, 2, 2};
        for (int n = 0; n < due.length; n++) {
            Check.due("vector(" + n + ")", x.vector(n), pair(due[n], due[n]));
        }
        // In block 7 the one to the left of B is the middle one.
        UnitBits bits = UnitBits.next(20, 0).copied(2).inter(6, 6).raw("0").inter(4, 4).raw("0").copied(2);
        // Block 6: A (0, 0), B (6, 6), C (10, 10): (6, 6), and here (2, 2).
        bits.inter(-4, -4).raw("0").copied(9);
        x = sent("the left of B", holding(1), bits, 1, 0);
        Check.due("vector(7)", x.vector(7), pair(6, 6));
    }

    private static void blocksWithoutVector() {
        Check.sentence("A block that is not in the picture or is INTRA has the vector (0, 0) here");
        // A is INTRA, B is not in the picture.
        BlockPictures x = sent("A", holding(1), UnitBits.next(20, 0).inter(9, 9).raw("0").raw("11 01 0").copied(14), 1, 0);
        Check.due("vector(2)", x.vector(2), pair(0, 0));
        // Block 5: A (8, 8), B (12, 12), C INTRA: C is in the picture, so the one to the left of B is not asked.
        UnitBits bits = UnitBits.next(20, 0).inter(20, 20).raw("0").inter(-8, -8).raw("0").raw("11 01 0").copied(1);
        bits.inter(-4, -4).raw("0").copied(11);
        x = sent("C", holding(1), bits, 1, 0);
        Check.due("vector(4)", x.vector(4), pair(8, 8));
        Check.due("vector(5)", x.vector(5), pair(8, 8));
        // Block 5: A (8, 8), B INTRA, C (6, 6): B is in the picture, so it is not A's vector.
        bits = UnitBits.next(20, 0).inter(20, 20).raw("0").raw("11 01 0").inter(6, 6).raw("0").copied(1);
        bits.inter(8, 8).raw("0").copied(11);
        x = sent("B", holding(1), bits, 1, 0);
        Check.due("vector(4)", x.vector(4), pair(8, 8));
        Check.due("vector(5)", x.vector(5), pair(6, 6));
        // An INTRA block has it even where a block of an earlier picture had another one.
        for (int round = 0; round < 3; round++) {
            x = holding(1);
            for (int k = 0; k <= round; k++) {
                sent("moved", x, UnitBits.next(20, 0).inter(9, 9).raw("0").copied(15), 1, 0);
            }
            sent("INTRA now", x, UnitBits.next(20, 0).raw("11 01 0").copied(15), 1, 0);
            Check.due("vector(1)", x.vector(1), pair(0, 0));
            Check.due("vector(4)", x.vector(4), pair(0, 0));
            Check.due("vector(5)", x.vector(5), pair(0, 0));
        }
        // Block 4: no A, B (6, 6), C (4, 4): the middle one of 0, 6 and 4.
        bits = UnitBits.next(20, 0).inter(6, 6).raw("0").inter(-2, -2).raw("0").copied(14);
        x = sent("no A", holding(1), bits, 1, 0);
        Check.due("vector(4)", x.vector(4), pair(4, 4));
    }

    private static BlockPictures reference(IntBinaryOperator picture) {
        BlockPictures x = UnitBits.decoder(2, 0);
        sent("the reference", x, UnitBits.key(9, 0).blocks(picture), 5, 0);
        return x;
    }

    private static BlockPictures moved(IntBinaryOperator picture, int vx, int vy) {
        BlockPictures x = reference(picture);
        sent("moved", x, UnitBits.next(20, 0).inter(vx, vy).raw("0").copied(15), 1, 0);
        return x;
    }

    private static int within(int i) {
        return i < 0 ? 0 : i > 15 ? 15 : i;
    }

    private static void samplesBeyondThePicture() {
        Check.sentence("F(i, j) is sample (i, j) of the reference, i and j below 0 taken as 0, above 15 as 15");
        int[] whole = {-64, -32, -30, -6, -2, 0, 2, 6, 30, 32, 64};
        for (int v : whole) {
            BlockPictures across = moved((x, y) -> 16 * x + y, v, 0);
            BlockPictures down = moved((x, y) -> 16 * x + y, 0, v);
            for (int k = 0; k < 16; k++) {
                Check.due("vx " + v + ", column " + k, across.heldSample(1, 16 * 3 + k), 16 * within(k + v / 2) + 3);
                Check.due("vy " + v + ", row " + k, down.heldSample(1, 16 * k + 3), 16 * 3 + within(k + v / 2));
            }
        }
    }

    private static void halfSamplesBeyondThePicture() {
        Check.sentence("H(i, j) and the same with rows for columns, at the picture's sides");
        // Between the columns of 10 * x: nearly 10 * x + 5, but where columns beyond the sides are asked for.
        int[] plusOne = {4, 15, 25, 35, 45, 55, 65, 75, 85, 95, 105, 115, 125, 135, 146, 151};
        int[] minusOne = {0, 4, 15, 25, 35, 45, 55, 65, 75, 85, 95, 105, 115, 125, 135, 146};
        for (int k = 0; k < 16; k++) {
            Check.due("vx 1, column " + k, moved((x, y) -> 10 * x, 1, 0).heldSample(1, 16 * 5 + k), plusOne[k]);
            Check.due("vy 1, row " + k, moved((x, y) -> 10 * y, 0, 1).heldSample(1, 16 * k + 5), plusOne[k]);
            Check.due("vx -1, column " + k, moved((x, y) -> 10 * x, -1, 0).heldSample(1, 16 * 5 + k), minusOne[k]);
            Check.due("vy -1, row " + k, moved((x, y) -> 10 * y, 0, -1).heldSample(1, 16 * k + 5), minusOne[k]);
            Check.due("vx -63, column " + k, moved((x, y) -> 10 * x, -63, 0).heldSample(1, 16 * 5 + k), 0);
            Check.due("vx 63, column " + k, moved((x, y) -> 10 * x, 63, 0).heldSample(1, 16 * 5 + k), 150);
            Check.due("both 1, column " + k, moved((x, y) -> 10 * x, 1, 1).heldSample(1, k), plusOne[k]);
            Check.due("both 1, row " + k, moved((x, y) -> 10 * y, 1, 1).heldSample(1, 16 * k + 15), plusOne[k]);
        }
    }

    private static void halfSamplesRounded() {
        Check.sentence("(H(i, j) + 16) >> 5; (G + 512) >> 10");
        // One sample of the reference is not 0, and it counts once: H is 15, 16, 47, 48.
        int[][] rows = {{15, 0}, {16, 1}, {47, 1}, {48, 2}};
        for (int[] row : rows) {
            BlockPictures across = moved((x, y) -> x == 6 && y == 9 ? row[0] : 0, 1, 0);
            Check.due("H is " + row[0], across.heldSample(1, 16 * 9 + 8), row[1]);
            BlockPictures down = moved((x, y) -> x == 9 && y == 6 ? row[0] : 0, 0, 1);
            Check.due("H down is " + row[0], down.heldSample(1, 16 * 8 + 9), row[1]);
        }
        // 20 times 25 and once 11 or 12; H is asked for in row 6 alone, where it counts once.
        for (int more = 11; more <= 12; more++) {
            int once = more;
            BlockPictures both = moved((x, y) -> y != 6 ? 0 : x == 8 ? 25 : x == 6 ? once : 0, 1, 1);
            Check.due("G is " + (500 + more), both.heldSample(1, 16 * 8 + 8), more - 11);
        }
        // A sample beside it counts -5 times.
        BlockPictures less = moved((x, y) -> x == 7 ? 3 : x == 6 ? 100 : 0, 1, 0);
        Check.due("H is 100 - 15", less.heldSample(1, 16 * 8 + 8), 3);
    }

    private static void limits() {
        Check.sentence("LIMIT(v) is v, 0 when v is below 0, 255 when above 255 (half samples)");
        IntBinaryOperator square = (x, y) -> x >= 4 && x < 12 && y >= 4 && y < 12 ? 255 : 0;
        // Half a sample beside the square's side: 1, -4, 16, 36 and 31 parts of 32.
        BlockPictures x = moved(square, 1, 0);
        int[] across = {0, 8, 0, 128, 255, 247, 255, 255};
        for (int k = 0; k < across.length; k++) {
            Check.due("X odd, column " + k, x.heldSample(1, 16 * 6 + k), across[k]);
        }
        x = moved(square, 0, 1);
        for (int k = 0; k < across.length; k++) {
            Check.due("Y odd, row " + k, x.heldSample(1, 16 * k + 6), across[k]);
        }
        x = moved(square, 1, 1);
        // 36 * 36 parts of 1024 are above 255; 36 * -4 parts are below 0; -4 * -4 parts are 4.
        Check.due("both odd, above 255", x.heldSample(1, 16 * 4 + 4), 255);
        Check.due("both odd, below 0", x.heldSample(1, 16 * 4 + 2), 0);
        Check.due("both odd, below 0", x.heldSample(1, 16 * 2 + 4), 0);
        Check.due("both odd, small", x.heldSample(1, 16 * 2 + 2), 4);
    }

    private static UnitBits firstBlock() {
        return UnitBits.key(1, 0).raw("01 1");
    }

    private static void coefficients() {
        Check.sentence("a NUMBER 0 .. 15, the number of coefficients less 1");
        for (int count = 1; count <= 17; count++) {
            UnitBits bits = firstBlock().number(count - 1);
            for (int k = 0; k < count; k++) {
                bits.number(0).signed(1);
            }
            sent(count + " coefficients", UnitBits.decoder(1, 0), bits.means(15), 5, count <= 16 ? 0 : 5);
        }
    }

    private static void placesOfTheBlock() {
        Check.sentence("a place beyond 15 is FAULT 5");
        for (int first = 0; first <= 17; first++) {
            UnitBits bits = firstBlock().number(0).number(first).signed(1).means(15);
            sent("place " + first, UnitBits.decoder(1, 0), bits, 5, first <= 15 ? 0 : 5);
            // The second one goes on from the place after the first.
            for (int more = 0; more <= 16 && first <= 15; more++) {
                bits = firstBlock().number(1).number(first).signed(1).number(more).signed(1).means(15);
                int fault = first + 1 + more <= 15 ? 0 : 5;
                sent("place " + first + ", then " + more, UnitBits.decoder(1, 0), bits, 5, fault);
            }
        }
        // It is a fault as soon as the places passed over are read.
        sent("at once", UnitBits.decoder(1, 0), firstBlock().number(1).number(15).signed(1).number(0), 5, 5);
        sent("at once", UnitBits.decoder(1, 0), firstBlock().number(1).number(14).signed(1).number(0), 5, 4);
    }

    private static void levels() {
        Check.sentence("a SIGNED level, not 0");
        for (int level : new int[] {-1023, -1, 0, 1, 1023}) {
            UnitBits bits = firstBlock().number(0).number(0).signed(level).means(15);
            sent("level " + level, UnitBits.decoder(1, 0), bits, 5, level == 0 ? 5 : 0);
            bits = firstBlock().number(1).number(0).signed(1).number(0).signed(level).means(15);
            sent("a second level " + level, UnitBits.decoder(1, 0), bits, 5, level == 0 ? 5 : 0);
        }
        sent("level 0 at once", UnitBits.decoder(1, 0), firstBlock().number(1).number(0).signed(0), 5, 5);
    }

    private static void othersAreZero() {
        Check.sentence("The coefficient c(u, v) at row u, column v is level * W * ...; others are 0");
        // Block 0 has sixteen of them, block 1 then one alone: level 8 at place 0 is a residual of 5 everywhere.
        UnitBits bits = firstBlock().number(15);
        for (int k = 0; k < 16; k++) {
            bits.number(0).signed(7);
        }
        BlockPictures x = sent("two residuals", UnitBits.decoder(1, 0), bits.raw("01").residual(0, 8).means(14), 5, 0);
        int mean = x.heldSample(0, 16 + 5);
        for (int k = 0; k < 4; k++) {
            Check.due("block 1 is flat", x.heldSample(0, 16 * (1 + k / 2) + 5 + k % 2), mean);
        }
    }

    private static void sumRounded() {
        Check.sentence("(the sum of T(y, u) * T(x, v) * c(u, v) over all u and v, + 128) >> 8");
        // The sum is 160 * level with q = 0: 640 is two and a half times 256, -640 likewise.
        int[][] rows = {{1, 1}, {2, 1}, {3, 2}, {4, 3}, {5, 3}, {-1, -1}, {-2, -1}, {-3, -2}, {-4, -2}, {-5, -3}};
        for (int[] row : rows) {
            UnitBits bits = UnitBits.key(1, 0).raw("01").residual(0, row[0]).plain(0).means(14);
            BlockPictures x = sent("level " + row[0], UnitBits.decoder(1, 0), bits, 5, 0);
            Check.due("level " + row[0], inner(x, 0), 128 + row[1]);
        }
    }

    private static void limitOfTheSum() {
        Check.sentence("The sample is LIMIT(the predicted one + the residual's)");
        // Level 8 is a residual of 5, level -8 one of -5 in all sixteen samples.
        int[][] rows = {{249, 8, 254}, {250, 8, 255}, {251, 8, 255}, {255, 8, 255}, {6, -8, 1}, {5, -8, 0}, {4, -8, 0}, {0, -8, 0},
            {0, 1023, 255}, {255, -1023, 0}};
        for (int[] row : rows) {
            BlockPictures x = UnitBits.decoder(1, 0);
            UnitBits bits = UnitBits.key(1, 0).plain(row[0]).raw("11").residual(0, row[1]).plain(128).plain(128);
            sent("from the left", x, bits.raw("10").residual(0, row[1]).means(11), 5, 0);
            Check.due(row[0] + " from the left, level " + row[1], inner(x, 1), row[2]);
            Check.due(row[0] + " from above, level " + row[1], inner(x, 4), row[2]);
            x = UnitBits.decoder(2, 0);
            Pictures.key(x, row[0]);
            sent("INTER", x, UnitBits.next(20, 0).inter(0, 0).residual(0, row[1]).copied(15), 1, 0);
            Check.due(row[0] + " INTER, level " + row[1], x.heldSample(1, 17), row[2]);
        }
    }
}
