/** Key pictures: predictions from neighbours, residuals, the filter over edges; promise 14: smoothed. */
public final class IntraTest {
    public static void main(String[] args) {
        plain();
        means();
        fromAboveAndLeft();
        firstCoefficient();
        otherCoefficients();
        placesAndWeights();
        edges();
        edgeLimits();
        unfilteredNeighbours();
        Check.finish();
    }

    private static BlockPictures keyPicture(int q, UnitBits bits) {
        BlockPictures x = UnitBits.decoder(1, q);
        UnitBits.sendBytes(x, bits.unit(5));
        Check.due("fault()", x.fault(), 0);
        Check.due("held()", x.held(), 1);
        return x;
    }

    private static void samples(String what, BlockPictures x, int n, int... want) {
        for (int k = 0; k < 16; k++) {
            int i = 16 * (4 * (n / 4) + k / 4) + 4 * (n % 4) + k % 4;
            Check.due(what + ", block " + n + ", sample " + k, x.heldSample(0, i), want[k % want.length]);
        }
    }

    private static void plain() {
        UnitBits bits = UnitBits.key(1, 0);
        for (int n = 0; n < 16; n++) {
            bits.raw("00");
            for (int k = 0; k < 16; k++) {
                bits.bits((16 * n + k) * 7 % 256, 8);
            }
        }
        BlockPictures x = keyPicture(0, bits);
        for (int n = 0; n < 16; n++) {
            int[] want = new int[16];
            for (int k = 0; k < 16; k++) {
                want[k] = (16 * n + k) * 7 % 256;
            }
            samples("plain", x, n, want);
            Check.due("vector(" + n + ")", x.vector(n), -1);
        }
        Check.due("smoothed()", x.smoothed(), 0);
    }

    private static void means() {
        UnitBits bits = UnitBits.key(1, 0).means(16);
        BlockPictures x = keyPicture(0, bits);
        for (int n = 0; n < 16; n++) {
            samples("means", x, n, 128);
        }
        bits = UnitBits.key(1, 0).raw("00");
        for (int k = 0; k < 16; k++) {
            bits.bits(k == 15 ? 12 : k >= 12 ? 9 : k % 4 == 3 ? 200 : 50, 8);
        }
        x = keyPicture(0, bits.means(1).plain(33).means(13));
        samples("left alone: 200, 200, 200, 12", x, 1, 153);
        samples("above alone: 9, 9, 9, 12", x, 4, 10);
        // Above: 4 times 153; to the left: 4 times 10.
        samples("both", x, 5, 82);
    }

    private static void fromAboveAndLeft() {
        UnitBits bits = UnitBits.key(1, 0).raw("00");
        for (int k = 0; k < 16; k++) {
            bits.bits(10 * k, 8);
        }
        bits.raw("11 0").plain(255).plain(255).raw("10 0").plain(255);
        BlockPictures x = keyPicture(0, bits.means(10));
        samples("from the left", x, 1, 30, 30, 30, 30, 70, 70, 70, 70, 110, 110, 110, 110, 150, 150, 150, 150);
        samples("from above", x, 4, 120, 130, 140, 150);
        bits = UnitBits.key(1, 0).plain(7).raw("11").residual(0, 8).plain(255).plain(255).raw("10").residual(0, -8);
        x = keyPicture(0, bits.plain(255).means(10));
        samples("from the left with a residual", x, 1, 12);
        samples("from above with a residual", x, 4, 2);
    }

    /** A key picture whose first block is predicted as 128 and whose neighbours are far from that. */
    private static BlockPictures alone(int q, UnitBits bits) {
        return keyPicture(q, bits.plain(255).plain(255).plain(255).plain(0).means(11));
    }

    private static void firstCoefficient() {
        int[][] rows = {{0, 1, 129}, {0, -1, 127}, {0, 8, 133}, {0, -8, 123}, {0, 1023, 255}, {0, -1023, 0},
            {3, 8, 137}, {4, 8, 138}, {5, 1, 130}, {11, 1, 132}, {11, -1, 124}};
        for (int[] row : rows) {
            BlockPictures x = alone(row[0], UnitBits.key(1, 0).raw("01").residual(0, row[1]));
            Check.due("q " + row[0] + ", level " + row[1], x.heldSample(0, 17), row[2]);
        }
        // d is added to the base.
        BlockPictures x = alone(2, UnitBits.key(1, 3).raw("01").residual(0, 1));
        Check.due("q is 2 + 3", x.heldSample(0, 17), 130);
    }

    private static void otherCoefficients() {
        BlockPictures x = alone(0, UnitBits.key(1, 0).raw("01").residual(1, 32));
        samples("place 1", x, 0, 154, 141, 115, 102);
        x = alone(0, UnitBits.key(1, 0).raw("01").residual(2, 32));
        samples("place 2", x, 0, 154, 154, 154, 154, 141, 141, 141, 141, 115, 115, 115, 115, 102, 102, 102, 102);
        x = alone(0, UnitBits.key(1, 0).raw("01").residual(3, 32));
        samples("place 3", x, 0, 148, 148, 148, 148, 108, 108, 108, 108, 108, 108, 108, 108, 148, 148, 148, 148);
        x = alone(0, UnitBits.key(1, 0).raw("01").residual(4, 32));
        samples("place 4", x, 0, 160, 144, 112, 96, 144, 136, 120, 112, 112, 120, 136, 144, 96, 112, 144, 160);
        // Two coefficients, the second one two places behind the first: places 0 and 3.
        x = alone(0, UnitBits.key(1, 0).raw("01 1").number(1).number(0).signed(8).number(2).signed(32));
        samples("places 0 and 3", x, 0,
            153, 153, 153, 153, 113, 113, 113, 113, 113, 113, 113, 113, 153, 153, 153, 153);
    }

    private static void placesAndWeights() {
        int[] rows = {0, 0, 1, 2, 1, 0, 0, 1, 2, 3, 3, 2, 1, 2, 3, 3};
        int[] columns = {0, 1, 0, 0, 1, 2, 3, 2, 1, 0, 1, 2, 3, 3, 2, 3};
        int[][] t = {{2, 2, 2, 1}, {2, 1, -2, -2}, {2, -1, -2, 2}, {2, -2, 2, -1}};
        for (int place = 0; place < 16; place++) {
            int u = rows[place];
            int v = columns[place];
            int weight = u % 2 + v % 2 == 0 ? 10 : u % 2 + v % 2 == 1 ? 13 : 16;
            for (int q = 0; q < 12; q++) {
                BlockPictures x = alone(q, UnitBits.key(1, 0).raw("01").residual(place, 5));
                int c = 5 * weight * (4 + q % 4) << q / 4;
                for (int k = 0; k < 16; k++) {
                    int sum = t[k / 4][u] * t[k % 4][v] * c;
                    Check.due("q " + q + ", place " + place + ", sample " + k,
                        x.heldSample(0, 16 * (k / 4) + k % 4), 128 + Math.floorDiv(sum + 128, 256));
                }
            }
        }
    }

    private static void edges() {
        // 100 beside 103: D is (12 + 100 - 103 + 4) >> 3 = 1.
        BlockPictures x = keyPicture(0, UnitBits.key(1, 0).plain(100).plain(103).means(2).plain(200).plain(200).means(10));
        samples("100 beside 103", x, 0, 100, 100, 100, 101);
        samples("103 beside 100", x, 1, 102, 103, 103, 103);
        Check.due("smoothed()", x.smoothed(), 4);
        // The other way the rounding is down: (-12 + 103 - 100 + 4) >> 3 = -1.
        x = keyPicture(0, UnitBits.key(1, 0).plain(103).plain(100).means(2).plain(200).plain(200).means(10));
        samples("103 beside 100", x, 0, 103, 103, 103, 102);
        samples("100 beside 103", x, 1, 101, 100, 100, 100);
        Check.due("smoothed()", x.smoothed(), 4);
        // A top edge, and a line that a left edge has changed before.
        x = keyPicture(0, UnitBits.key(1, 0).plain(100).plain(103).plain(200).plain(200)
            .plain(103).plain(50).plain(50).plain(50).plain(200).means(7));
        samples("a left and a top edge", x, 0, 100, 100, 100, 101, 100, 100, 100, 101, 100, 100, 100, 101, 101, 101, 101, 102);
        samples("below", x, 4, 102, 102, 102, 102, 103, 103, 103, 103, 103, 103, 103, 103, 103, 103, 103, 103);
        Check.due("smoothed()", x.smoothed(), 8);
    }

    private static void edgeLimits() {
        // With q = 0 a step of 4 is too high, with q = 1 one of 7; a step of 1 gives D = 0.
        int[][] rows = {{0, 3, 4}, {0, 4, 0}, {1, 6, 4}, {1, 7, 0}, {11, 36, 4}, {11, 37, 0}, {0, 1, 0}, {0, 2, 4}};
        for (int[] row : rows) {
            BlockPictures x = keyPicture(row[0], UnitBits.key(1, 0).plain(100).plain(100 + row[1]).plain(200).plain(150)
                .plain(200).plain(50).plain(100).plain(50).means(8));
            int lines = x.smoothed();
            BlockPictures far = keyPicture(row[0], UnitBits.key(1, 0).plain(100).plain(255).plain(200).plain(150)
                .plain(200).plain(50).plain(100).plain(50).means(8));
            Check.due("q " + row[0] + ", step " + row[1], lines - far.smoothed(), row[2]);
        }
        // q = 11, a step of 36: D is (144 - 36 + 4) >> 3 = 14, t = 2 + 11 / 3 = 5.
        BlockPictures x = keyPicture(11, UnitBits.key(1, 0).plain(100).plain(136).plain(200).plain(250)
            .plain(200).plain(0).means(10));
        Check.due("p0 with t = 5", x.heldSample(0, 3), 105);
        Check.due("q0 with t = 5", x.heldSample(0, 4), 131);
        // The slope within a block: 2 + q is too steep.
        Check.due("slope 1 before the edge", linesWithSlope(98, 99), 4);
        Check.due("slope 2 before the edge", linesWithSlope(97, 99), 0);
        Check.due("slope 1 behind the edge", linesWithSlope(102, 101), 4);
        Check.due("slope 2 behind the edge", linesWithSlope(103, 101), 0);
    }

    /** Block 0 ends with, or block 1 begins with, the two samples told (outer, inner); the other is flat at 100. */
    private static int linesWithSlope(int outer, int inner) {
        boolean before = inner < 100;
        UnitBits bits = UnitBits.key(1, 0);
        for (int n = 0; n < 2; n++) {
            bits.raw("00");
            for (int k = 0; k < 16; k++) {
                int near = before ? k % 4 == 3 ? inner : outer : k % 4 == 0 ? inner : outer;
                bits.bits((n == 0) == before ? near : 100 + (before ? 2 : -2), 8);
            }
        }
        return keyPicture(0, bits.plain(200).plain(250).plain(200).plain(0).means(10)).smoothed();
    }

    private static void unfilteredNeighbours() {
        // Block 2 copies the last column of block 1 as it is before any edge is filtered.
        BlockPictures x = keyPicture(11, UnitBits.key(1, 0).plain(100).plain(120).raw("11 0").raw("11 0")
            .plain(255).plain(0).plain(255).plain(0).means(8));
        Check.due("block 1 was filtered", x.heldSample(0, 4), 115);
        samples("block 2", x, 2, 120);
        samples("block 3", x, 3, 120);
    }
}
