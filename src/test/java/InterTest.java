/** Next pictures: vectors, half samples, lists of references, strengths of edges; promise 13: vector. */
public final class InterTest {
    public static void main(String[] args) {
        wholeSamples();
        halfAcross();
        halfDown();
        halfBoth();
        limits();
        predictedVectors();
        intraInNext();
        residuals();
        strengths();
        lists();
        nothingOfEarlierPictures();
        vectorAnswers();
        Check.finish();
    }

    /** Sample (x, y) of the reference is 10 * x + y, and no edge changes it with q = 0. */
    private static BlockPictures ramp(int places) {
        BlockPictures x = UnitBits.decoder(places, 0);
        for (int i = 0; i < 256; i++) {
            x.draw(i, 10 * (i % 16) + i / 16);
        }
        x.write(5, 50, 0);
        x.pass();
        UnitBits.feed(x, 0, 0, 0);
        Check.due("no edge of the ramp is smoothed", x.smoothed(), 0);
        return x;
    }

    private static void look(String what, BlockPictures x, int column, int row, int want) {
        Check.due(what + " (" + column + ", " + row + ")", x.heldSample(1, 16 * row + column), want);
    }

    private static BlockPictures moved(int vx, int vy) {
        BlockPictures x = ramp(2);
        UnitBits.next(60, 0).inter(vx, vy).raw("0").copied(15).send(x, 1);
        Check.due("fault()", x.fault(), 0);
        Check.due("held()", x.held(), 2);
        for (int n = 0; n < 16; n++) {
            Check.due("vector(" + n + ")", x.vector(n), 256 * (vx + 64) + vy + 64);
        }
        Check.due("equal vectors are not smoothed", x.smoothed(), 0);
        return x;
    }

    private static void wholeSamples() {
        BlockPictures x = moved(2, 4);
        look("(2, 4)", x, 0, 0, 12);
        look("(2, 4)", x, 5, 6, 68);
        look("(2, 4)", x, 14, 13, 165);
        look("(2, 4)", x, 15, 15, 165);
        x = moved(-6, -2);
        look("(-6, -2)", x, 0, 0, 0);
        look("(-6, -2)", x, 3, 1, 0);
        look("(-6, -2)", x, 9, 9, 68);
        x = moved(64, -64);
        look("(64, -64)", x, 0, 9, 150);
        x = moved(-64, 64);
        look("(-64, 64)", x, 9, 0, 15);
    }

    private static void halfAcross() {
        BlockPictures x = moved(1, 0);
        look("(1, 0)", x, 0, 0, 4);
        look("(1, 0)", x, 1, 0, 15);
        look("(1, 0)", x, 5, 7, 62);
        look("(1, 0)", x, 15, 0, 151);
        // X = -1: i is -1 (rounded down), so it lies between column -1 and column 0.
        x = moved(-1, 0);
        look("(-1, 0)", x, 0, 0, 0);
        look("(-1, 0)", x, 0, 7, 6);
        look("(-1, 0)", x, 1, 0, 4);
    }

    private static void halfDown() {
        // 0.5 more is rounded up.
        BlockPictures x = moved(0, 1);
        look("(0, 1)", x, 5, 7, 58);
        look("(0, 1)", x, 5, 0, 50);
        x = moved(0, -3);
        look("(0, -3)", x, 5, 7, 56);
        x = moved(2, 1);
        look("(2, 1)", x, 5, 7, 68);
    }

    private static void halfBoth() {
        BlockPictures x = moved(1, 1);
        look("(1, 1)", x, 4, 4, 50);
        look("(1, 1)", x, 8, 5, 91);
        x = moved(-3, -5);
        look("(-3, -5)", x, 8, 8, 71);
    }

    private static void limits() {
        // Columns 0 .. 3 are 0, 4 .. 11 are 255, 12 .. 15 are 0.
        BlockPictures x = UnitBits.decoder(2, 0);
        UnitBits bits = UnitBits.key(50, 0).plain(0).plain(255).plain(255).plain(0);
        for (int n = 4; n < 16; n++) {
            bits.raw("10 0");
        }
        bits.send(x, 5);
        UnitBits.next(60, 0).inter(1, 0).raw("0").copied(15).send(x, 1);
        int[] want = {0, 8, 0, 128, 255, 247, 255, 255, 255, 247, 255, 128, 0, 8, 0, 0};
        for (int column = 0; column < 16; column++) {
            look("limits", x, column, 5, want[column]);
        }
        x = UnitBits.decoder(2, 0);
        bits = UnitBits.key(50, 0);
        for (int n = 0; n < 16; n++) {
            bits.plain(n >= 4 && n < 12 ? 255 : 0);
        }
        bits.send(x, 5);
        UnitBits.next(60, 0).inter(0, 1).raw("0").copied(15).send(x, 1);
        for (int row = 0; row < 16; row++) {
            look("limits", x, 5, row, want[row]);
        }
    }

    private static int pair(int vx, int vy) {
        return 256 * (vx + 64) + vy + 64;
    }

    private static void predictedVectors() {
        BlockPictures x = ramp(2);
        UnitBits bits = UnitBits.next(60, 0);
        bits.inter(10, -4).raw("0");           // block 0: (10, -4), from (0, 0)
        bits.inter(-4, 8).raw("0");            // block 1: from A (10, -4): (6, 4)
        bits.plainInNext(0);                   // block 2: INTRA
        bits.copied(1);                        // block 3: A is INTRA: (0, 0)
        bits.copied(1);                        // block 4: 0, (10, -4), (6, 4): (6, 0)
        bits.copied(1);                        // block 5: (6, 0), (6, 4), INTRA: (6, 0)
        bits.inter(1, 1).raw("0");             // block 6: (6, 0), INTRA, (0, 0): (0, 0) + (1, 1)
        bits.inter(20, 30).raw("0");           // block 7: (1, 1), (0, 0), to the left of B INTRA: (0, 0)
        bits.copied(1);                        // block 8: 0, (6, 0), (6, 0): (6, 0)
        bits.copied(1);                        // block 9: (6, 0), (6, 0), (1, 1): (6, 0)
        bits.copied(1);                        // block 10: (6, 0), (1, 1), (20, 30): (6, 1)
        bits.copied(1);                        // block 11: (6, 1), (20, 30), to the left of B (1, 1): (6, 1)
        bits.copied(4);
        bits.send(x, 1);
        int[] want = {pair(10, -4), pair(6, 4), -1, pair(0, 0), pair(6, 0), pair(6, 0), pair(1, 1), pair(20, 30),
            pair(6, 0), pair(6, 0), pair(6, 1), pair(6, 1), pair(6, 0), pair(6, 0), pair(6, 1), pair(6, 1)};
        Check.due("fault()", x.fault(), 0);
        for (int n = 0; n < 16; n++) {
            Check.due("vector(" + n + ")", x.vector(n), want[n]);
        }
    }

    private static void intraInNext() {
        // Blocks 1 and 4 are predicted from INTER blocks of this picture.
        BlockPictures x = ramp(2);
        UnitBits.next(60, 0).inter(4, 2).raw("0").raw("11 11 0").copied(2).raw("11 10 0").copied(11).send(x, 1);
        look("from the left", x, 5, 0, 51);
        look("from the left", x, 6, 2, 53);
        look("from above", x, 1, 5, 34);
        Check.due("vector(1)", x.vector(1), -1);
        Check.due("vector(0)", x.vector(0), pair(4, 2));
        x = ramp(2);
        UnitBits.next(60, 0).copied(5).raw("11 01 0").copied(10).send(x, 1);
        // Above: 43, 53, 63, 73; to the left: 34 .. 37; 374 + 4 over 8.
        look("the mean", x, 5, 5, 47);
    }

    private static void residuals() {
        BlockPictures x = ramp(2);
        UnitBits.next(60, 0).copied(5).inter(0, 0).residual(0, 32).copied(10).send(x, 1);
        look("with a residual", x, 5, 5, 55 + 20);
        look("without", x, 9, 9, 99);
        // q of this picture: 0 + 11.
        x = ramp(2);
        new UnitBits().number(60).signed(11).number(0).raw("0").copied(5).inter(0, 0).residual(0, 2).copied(10).send(x, 1);
        look("with q = 11", x, 5, 5, 55 + 9);
    }

    private static BlockPictures flat(int places) {
        BlockPictures x = UnitBits.decoder(places, 0);
        UnitBits.key(50, 0).plain(100).means(15).send(x, 5);
        return x;
    }

    private static void strengths() {
        // A residual in block 0: strength 1, so t = 1 with q = 0.
        BlockPictures x = flat(2);
        UnitBits.next(60, 0).inter(0, 0).residual(0, 5).copied(15).send(x, 1);
        Check.due("smoothed() beside a residual", x.smoothed(), 8);
        int[][] due = {{2, 2, 103}, {3, 0, 102}, {4, 0, 101}, {5, 0, 100}, {0, 3, 102}, {0, 4, 101}, {0, 5, 100},
            {3, 3, 101}, {4, 3, 101}, {3, 4, 101}, {4, 4, 100}};
        for (int[] row : due) {
            look("a residual", x, row[0], row[1], row[2]);
        }
        Check.due("vx differ by 1", smoothedWithVector(1, 0), false);
        Check.due("vx differ by 2", smoothedWithVector(2, 0), true);
        Check.due("vx differ by -2", smoothedWithVector(-2, 0), true);
        Check.due("vy differ by 1", smoothedWithVector(0, 1), false);
        Check.due("vy differ by 2", smoothedWithVector(0, 2), true);
        Check.due("vy differ by -2", smoothedWithVector(0, -2), true);
        Check.due("both differ by 1", smoothedWithVector(1, -1), false);
        // A step of 12 with q = 3: D is -5, held within t, beside an INTRA block and beside a residual.
        x = flat(2);
        new UnitBits().number(60).signed(3).number(0).raw("0").plainInNext(112).copied(15).send(x, 1);
        look("t = 2 + 1", x, 3, 0, 109);
        look("t = 2 + 1", x, 4, 0, 103);
        x = flat(2);
        new UnitBits().number(60).signed(3).number(0).raw("0").inter(0, 0).residual(0, 11).copied(15).send(x, 1);
        look("the residual", x, 0, 0, 112);
        look("t = 1 + 1", x, 3, 0, 110);
        look("t = 1 + 1", x, 4, 0, 102);
    }

    /**
     * Whether edges are smoothed when block 15, which stands out by 4, has the vector told and all others
     * (0, 0). With q = 0 the edges of the reference stay; with q = 1 those of the next picture would not.
     */
    private static boolean smoothedWithVector(int vx, int vy) {
        BlockPictures x = UnitBits.decoder(1, 0);
        UnitBits bits = UnitBits.key(50, 0);
        for (int n = 0; n < 16; n++) {
            bits.plain(n == 15 ? 104 : 100);
        }
        bits.send(x, 5);
        Check.due("a step of 4 stays", x.smoothed(), 0);
        new UnitBits().number(60).signed(1).number(0).raw("0").copied(15).inter(vx, vy).raw("0").send(x, 1);
        Check.due("fault()", x.fault(), 0);
        return x.smoothed() > 0;
    }

    private static void lists() {
        // References by latest decoded first: 30, 20, 10.
        int[] firsts = {-1, 0, 1, 2};
        int[][] lists = {{30, 20, 10}, {30, 20, 10}, {20, 30, 10}, {10, 30, 20}};
        for (int k = 0; k < 4; k++) {
            for (int r = 0; r < 3; r++) {
                BlockPictures x = threeReferences();
                UnitBits bits = new UnitBits().number(60).signed(0).number(2);
                bits.raw(firsts[k] < 0 ? "0" : "1");
                if (firsts[k] >= 0) {
                    bits.number(firsts[k]);
                }
                bits.raw("10").number(r).raw("1 1 0").copied(15).send(x, 1);
                String what = "k " + firsts[k] + ", r " + r;
                Check.due(what, x.heldSample(3, 0), lists[k][r]);
                Check.due(what + ", a copied block", x.heldSample(3, 255), lists[k][0]);
                Check.due(what + ", references differ", x.smoothed(), 0);
            }
        }
        // Blocks of different references are smoothed, those of the same are not: q is 5.
        BlockPictures x = threeReferences();
        new UnitBits().number(60).signed(5).number(1).raw("0").raw("10").number(1).raw("1 1 0").copied(15).send(x, 1);
        Check.due("10 apart, different references", x.smoothed(), 8);
        Check.due("t = 1 + 5 / 3", x.heldSample(3, 3), 22);
        Check.due("t = 1 + 5 / 3", x.heldSample(3, 4), 28);
    }

    private static void nothingOfEarlierPictures() {
        BlockPictures x = ramp(1);
        for (int round = 0; round < 3; round++) {
            UnitBits.next(20, 0).inter(6, 2).raw("0").copied(15).send(x, 1);
            Check.due("vector(15)", x.vector(15), pair(6, 2));
        }
        UnitBits.next(20, 0).plainInNext(0).copied(15).send(x, 1);
        for (int n = 0; n < 16; n++) {
            Check.due("vector(" + n + ") behind an INTRA block", x.vector(n), n == 0 ? -1 : pair(0, 0));
        }
        x = threeReferences();
        UnitBits.next(0, 2).raw("10").number(2).raw("1 1 0").copied(15).send(x, 1);
        for (int round = 0; round < 3; round++) {
            UnitBits.next(0, 2).copied(16).send(x, 1);
            Check.due("a copied block is of the first reference", x.heldSample(3, 0), 30);
        }
    }

    private static BlockPictures threeReferences() {
        BlockPictures x = UnitBits.decoder(4, 0);
        UnitBits.key(1, 0).plain(10).means(15).send(x, 5);
        for (int value = 20; value <= 30; value += 10) {
            UnitBits bits = new UnitBits().number(value).signed(0).number(0).raw("0 0");
            bits.plainInNext(value);
            for (int n = 1; n < 16; n++) {
                bits.raw("11 01 0");
            }
            bits.send(x, 0x21);
        }
        Check.due("held()", x.held(), 3);
        return x;
    }

    private static void vectorAnswers() {
        BlockPictures x = moved(3, -7);
        for (int n : new int[] {-1, 16, 17, Integer.MIN_VALUE, Integer.MAX_VALUE}) {
            Check.due("vector(" + n + ")", x.vector(n), -1);
        }
        x.end();
        Check.due("vector(0) after end()", x.vector(0), pair(3, -7));
        // A picture that is shown at once is the latest decoded one, too.
        x = ramp(1);
        UnitBits.next(20, 0).inter(5, 6).raw("0").copied(15).send(x, 1);
        Check.due("shown()", x.shown(), 1);
        Check.due("vector(0)", x.vector(0), pair(5, 6));
        UnitBits.key(1, 0).means(16).send(x, 5);
        Check.due("vector(0) of a key picture", x.vector(0), -1);
    }
}
