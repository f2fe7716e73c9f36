/** The boundary cases of "EDGES", a method for each sentence. */
public final class EdgeBoundsTest {
    /** Values of blocks, each far from its neighbours; those of the edge looked at are put in place of some. */
    private static final int[] FAR = {100, 100, 200, 0, 200, 0, 100, 200, 0, 200, 0, 100, 200, 0, 200, 0};

    public static void main(String[] args) {
        sidesOfThePicture();
        leftEdgeFirst();
        blocksInTheirOrder();
        intraStrength();
        residualStrength();
        referenceStrength();
        vectorStrength();
        noStrength();
        stepAcross();
        slopeBefore();
        slopeBehind();
        heldWithin();
        limitOfBoth();
        changedLines();
        Check.finish();
    }

    /** Blocks 0 and 1 (or 0 and 4, if down) with p1, p0 | q0, q1 across their edge; no other edge is smoothed. */
    private static BlockPictures across(int q, boolean down, int p1, int p0, int q0, int q1) {
        BlockPictures x = UnitBits.decoder(1, q);
        UnitBits bits = UnitBits.key(9, 0);
        for (int n = 0; n < 16; n++) {
            int far = down ? FAR[n % 4 * 4 + n / 4] : FAR[n];
            bits.block(n, (c, r) -> {
                int at = down ? r : c;
                boolean beside = at < 8 && (down ? c : r) < 4;
                // 90 stands for the samples of both blocks that are farther from the edge: they do not count.
                return !beside ? far : at == 2 ? p1 : at == 3 ? p0 : at == 4 ? q0 : at == 5 ? q1 : 90;
            });
        }
        bits.send(x, 5);
        Check.due("fault()", x.fault(), 0);
        return x;
    }

    private static void lines(String what, int q, int p1, int p0, int q0, int q1, int due) {
        Check.due(what + ", left edge, q " + q, across(q, false, p1, p0, q0, q1).smoothed(), due);
        Check.due(what + ", top edge, q " + q, across(q, true, p1, p0, q0, q1).smoothed(), due);
    }

    /** What p0 and q0 become. */
    private static void become(String what, int q, int[] before, int p0, int q0) {
        BlockPictures x = across(q, false, before[0], before[1], before[2], before[3]);
        Check.due(what + ", left edge, p0, q " + q, x.heldSample(0, 16 + 3), p0);
        Check.due(what + ", left edge, q0, q " + q, x.heldSample(0, 16 + 4), q0);
        x = across(q, true, before[0], before[1], before[2], before[3]);
        Check.due(what + ", top edge, p0, q " + q, x.heldSample(0, 16 * 3 + 1), p0);
        Check.due(what + ", top edge, q0, q " + q, x.heldSample(0, 16 * 4 + 1), q0);
    }

    private static void sidesOfThePicture() {
        Check.sentence("where such a P is in the picture");
        // Each of the 24 edges between blocks has four lines, and all are smoothed here.
        BlockPictures x = UnitBits.decoder(1, 11);
        UnitBits.key(9, 0).blocks((c, r) -> (c / 4 + r / 4) % 2 == 0 ? 100 : 130).send(x, 5);
        Check.due("smoothed()", x.smoothed(), 96);
        int[] corners = {0, 15, 240, 255};
        int[] due = {100, 130, 130, 100};
        for (int k = 0; k < 4; k++) {
            Check.due("a corner of the picture stays", x.heldSample(0, corners[k]), due[k]);
        }
        Check.due("left of an edge", x.heldSample(0, 3), 105);
        Check.due("right of an edge", x.heldSample(0, 4), 125);
        Check.due("the picture's top side", x.heldSample(0, 5), 130);
        Check.due("the picture's left side", x.heldSample(0, 16 * 5), 130);
        Check.due("the picture's right side", x.heldSample(0, 16 * 5 + 15), 100);
    }

    private static void leftEdgeFirst() {
        Check.sentence("first its left edge, then its top edge; the samples as they are by then");
        // Block 5 is 103, the one to its left 100, the one above 101; the others are far from all of them.
        BlockPictures x = UnitBits.decoder(1, 0);
        UnitBits.key(9, 0).blocks((c, r) -> {
            int n = c / 4 + r / 4 * 4;
            return n == 5 ? 103 : n == 4 ? 100 : n == 1 ? 101 : n % 2 == 0 ? 200 : 0;
        }).send(x, 5);
        // D is 1 at the left edge, so the corner is 102; then the step of 1 above it gives D = 0.
        Check.due("the corner", x.heldSample(0, 16 * 4 + 4), 102);
        Check.due("left of it", x.heldSample(0, 16 * 4 + 3), 101);
        Check.due("above it", x.heldSample(0, 16 * 3 + 4), 101);
        Check.due("right of it", x.heldSample(0, 16 * 4 + 5), 102);
        Check.due("above that", x.heldSample(0, 16 * 3 + 5), 102);
        Check.due("smoothed()", x.smoothed(), 7);
    }

    private static void blocksInTheirOrder() {
        Check.sentence("for each block Q, 0 .. 15");
        // Block 0 is 100, block 1 to its right 103, block 4 below it 102; the others are far from all of them.
        BlockPictures x = UnitBits.decoder(1, 0);
        UnitBits.key(9, 0).blocks((c, r) -> {
            int n = c / 4 + r / 4 * 4;
            return n == 0 ? 100 : n == 1 ? 103 : n == 4 ? 102 : n % 2 == 0 ? 200 : 0;
        }).send(x, 5);
        // The edge of block 1 makes the corner 101, so that the edge of block 4 finds a step of 1 there: D = 0.
        Check.due("the corner", x.heldSample(0, 16 * 3 + 3), 101);
        Check.due("right of it", x.heldSample(0, 16 * 3 + 4), 102);
        Check.due("below it", x.heldSample(0, 16 * 4 + 3), 102);
        Check.due("left of it", x.heldSample(0, 16 * 3 + 2), 101);
        Check.due("below that", x.heldSample(0, 16 * 4 + 2), 101);
        Check.due("smoothed()", x.smoothed(), 7);
    }

    /** A decoder whose only reference has 106 in block n and 100 elsewhere; its edges of 6 are too high for q = 0. */
    private static BlockPictures standingOut(int n) {
        BlockPictures x = UnitBits.decoder(4, 0);
        UnitBits.key(9, 0).blocks((c, r) -> c / 4 + 4 * (r / 4) == n ? 106 : 100).send(x, 5);
        Check.due("a step of 6 stays", x.smoothed(), 0);
        return x;
    }

    /** A next picture with q = 1: a step of 6 gives D = 2, held within t = STRENGTH. */
    private static UnitBits next(int a) {
        return new UnitBits().number(20).signed(1).number(a).raw("0");
    }

    /** Looks at the two edges of block 15 and how far the samples there moved. */
    private static void strengthAt15(String what, BlockPictures x, UnitBits bits, int strength) {
        bits.send(x, 1);
        Check.due(what + ": fault()", x.fault(), 0);
        Check.due(what + ": smoothed()", x.smoothed(), strength == 0 ? 0 : 8);
        Check.due(what + ": left edge, p0", x.heldSample(1, 16 * 14 + 11), 100 + strength);
        Check.due(what + ": left edge, q0", x.heldSample(1, 16 * 14 + 12), 106 - strength);
        Check.due(what + ": top edge, p0", x.heldSample(1, 16 * 11 + 14), 100 + strength);
        Check.due(what + ": top edge, q0", x.heldSample(1, 16 * 12 + 14), 106 - strength);
    }

    private static void intraStrength() {
        Check.sentence("STRENGTH: 2 when P or Q is INTRA");
        BlockPictures x = UnitBits.decoder(4, 0);
        Pictures.key(x, 100);
        strengthAt15("Q is INTRA", x, next(0).copied(15).plainInNext(106), 2);
        UnitBits bits = next(0).copied(11).plainInNext(100).copied(2).plainInNext(100).copied(1);
        x = standingOut(15);
        strengthAt15("P is INTRA", x, bits, 2);
        bits = next(0).copied(11).plainInNext(100).copied(2).plainInNext(100).plainInNext(106);
        strengthAt15("both are INTRA", standingOut(15), bits, 2);
    }

    private static void residualStrength() {
        Check.sentence("else 1 when P or Q has a residual");
        // With q = 1 level 8 is a residual of 6: 4 * 8 * 10 * 5 + 128 over 256; level -8 is one of -6.
        BlockPictures x = UnitBits.decoder(4, 0);
        Pictures.key(x, 100);
        strengthAt15("Q has one", x, next(0).copied(15).inter(0, 0).residual(0, 8), 1);
        // Blocks 11 and 14 are brought down by 6.
        x = UnitBits.decoder(4, 0);
        UnitBits.key(9, 0).blocks((c, r) -> {
            int n = c / 4 + 4 * (r / 4);
            return n == 15 || n == 11 || n == 14 ? 106 : 100;
        }).send(x, 5);
        UnitBits bits = next(0).copied(11).inter(0, 0).residual(0, -8).copied(2).inter(0, 0).residual(0, -8).copied(1);
        bits.send(x, 1);
        Check.due("P has one: fault()", x.fault(), 0);
        Check.due("P has one: left edge, p0", x.heldSample(1, 16 * 14 + 11), 101);
        Check.due("P has one: left edge, q0", x.heldSample(1, 16 * 14 + 12), 105);
        Check.due("P has one: top edge, p0", x.heldSample(1, 16 * 11 + 14), 101);
        Check.due("P has one: top edge, q0", x.heldSample(1, 16 * 12 + 14), 105);
        strengthAt15("an INTER block without one", standingOut(15), next(0).copied(15).inter(0, 0).raw("0"), 0);
    }

    private static void referenceStrength() {
        Check.sentence("or they have different references");
        for (int r = 0; r < 2; r++) {
            // The references are 100 and 106; block 15 is of reference r, which is 106, the others of 1 - r.
            BlockPictures x = UnitBits.decoder(4, 0);
            Pictures.key(x, r == 1 ? 106 : 100);
            Pictures.reference(x, r == 1 ? 100 : 106);
            UnitBits bits = next(1);
            for (int n = 0; n < 16; n++) {
                bits.raw("10").number(n == 15 ? r : 1 - r).raw("1 1 0");
            }
            bits.send(x, 1);
            Check.due("smoothed()", x.smoothed(), 8);
            Check.due("left edge, p0", x.heldSample(2, 16 * 14 + 11), 101);
            Check.due("top edge, q0", x.heldSample(2, 16 * 12 + 14), 105);
        }
        // A COPIED block and one that names reference 0 have the same.
        BlockPictures x = standingOut(15);
        new UnitBits().number(20).signed(0).number(0).raw("0 0").copied(16).send(x, 0x21);
        UnitBits bits = next(1).copied(15).raw("10").number(0).raw("1 1 0");
        bits.send(x, 1);
        Check.due("the same reference: fault()", x.fault(), 0);
        Check.due("the same reference: smoothed()", x.smoothed(), 0);
    }

    private static void vectorStrength() {
        Check.sentence("or their vx or their vy differ by 2 or more");
        for (int v = 0; v <= 4; v++) {
            for (int u = 0; u <= 2; u++) {
                // A part of 1 makes a side of the block 107, a step too high: three lines are left beside the other side.
                int lines = v < 2 && u < 2 ? 0 : v == 1 || u == 1 ? 3 : 8;
                // Block 15 as Q, its P with (0, 0).
                edgesOfLast(v, u, lines);
                edgesOfLast(u, v, lines);
                // Block 0 as P, blocks 1 and 4 with (0, 0).
                edgesOfFirst(-v, -u, lines);
                edgesOfFirst(-u, -v, lines);
            }
        }
        // They differ from one another, not from 0: a step of 6 comes to stand at the edges of block 10.
        BlockPictures x = standingOut(15);
        next(0).inter(8, 8).raw("0").copied(15).send(x, 1);
        Check.due("left of block 10", x.heldSample(1, 16 * 9 + 7), 100);
        Check.due("in block 10", x.heldSample(1, 16 * 9 + 8), 106);
        Check.due("(8, 8) everywhere", x.smoothed(), 0);
    }

    private static void edgesOfLast(int vx, int vy, int lines) {
        BlockPictures x = standingOut(15);
        next(0).copied(15).inter(vx, vy).raw("0").send(x, 1);
        Check.due("fault()", x.fault(), 0);
        Check.due("(" + vx + ", " + vy + ") in block 15: smoothed()", x.smoothed(), lines);
    }

    private static void edgesOfFirst(int vx, int vy, int lines) {
        BlockPictures x = standingOut(0);
        next(0).inter(vx, vy).raw("0").inter(-vx, -vy).raw("0").copied(14).send(x, 1);
        Check.due("fault()", x.fault(), 0);
        Check.due("(" + vx + ", " + vy + ") in block 0: smoothed()", x.smoothed(), lines);
    }

    private static void noStrength() {
        Check.sentence("else 0: nothing is done");
        strengthAt15("all COPIED", standingOut(15), next(0).copied(16), 0);
        strengthAt15("COPIED beside INTER", standingOut(15), next(0).copied(14).inter(0, 0).raw("0").copied(1), 0);
    }

    private static void stepAcross() {
        Check.sentence("when |p0 - q0| < 4 + 3 * q");
        for (int q = 0; q < 12; q++) {
            int last = 3 + 3 * q;
            lines("a step up of " + last, q, 100, 100, 100 + last, 100 + last, 4);
            lines("a step up of " + (last + 1), q, 100, 100, 101 + last, 101 + last, 0);
            lines("a step down of " + last, q, 100 + last, 100 + last, 100, 100, 4);
            lines("a step down of " + (last + 1), q, 101 + last, 101 + last, 100, 100, 0);
        }
    }

    private static void slopeBefore() {
        Check.sentence("|p1 - p0| < 2 + q");
        for (int q = 0; q < 12; q++) {
            int last = 1 + q;
            int step = 3 + 3 * q;
            lines("p1 below p0 by " + last, q, 100 - last, 100, 100 + step, 100 + step, 4);
            lines("p1 below p0 by " + (last + 1), q, 99 - last, 100, 100 + step, 100 + step, 0);
            lines("p1 above p0 by " + last, q, 100 + last, 100, 100 + step, 100 + step, 4);
            lines("p1 above p0 by " + (last + 1), q, 101 + last, 100, 100 + step, 100 + step, 0);
        }
    }

    private static void slopeBehind() {
        Check.sentence("and |q1 - q0| < 2 + q");
        for (int q = 0; q < 12; q++) {
            int last = 1 + q;
            int step = 3 + 3 * q;
            lines("q1 above q0 by " + last, q, 100 + step, 100 + step, 100, 100 + last, 4);
            lines("q1 above q0 by " + (last + 1), q, 100 + step, 100 + step, 100, 101 + last, 0);
            lines("q1 below q0 by " + last, q, 100 + step, 100 + step, 100, 100 - last, 4);
            lines("q1 below q0 by " + (last + 1), q, 100 + step, 100 + step, 100, 99 - last, 0);
        }
    }

    private static void heldWithin() {
        Check.sentence("D is held within -t .. t with t = STRENGTH + q / 3");
        // The highest step gives (13 + 9 * q) >> 3: 1, 2, 3, 5, 6, 7, 8, 9, 10, 11, 12, 14.
        int[] due = {1, 2, 2, 3, 3, 3, 4, 4, 4, 5, 5, 5};
        for (int q = 0; q < 12; q++) {
            int step = 3 + 3 * q;
            become("up", q, new int[] {100, 100, 100 + step, 100 + step}, 100 + due[q], 100 + step - due[q]);
            become("down", q, new int[] {100 + step, 100 + step, 100, 100}, 100 + step - due[q], 100 + due[q]);
        }
        // With q = 3, t is 3: D is (3 * step + 4) >> 3.
        become("D is 2", 3, new int[] {100, 100, 105, 105}, 102, 103);
        become("D is 3", 3, new int[] {100, 100, 107, 107}, 103, 104);
        become("D would be 4", 3, new int[] {100, 100, 110, 110}, 103, 107);
        become("D is -3", 3, new int[] {107, 107, 100, 100}, 104, 103);
        become("D would be -4", 3, new int[] {110, 110, 100, 100}, 107, 103);
    }

    private static void limitOfBoth() {
        Check.sentence("p0 becomes LIMIT(p0 + D), q0 becomes LIMIT(q0 - D)");
        become("p0 + 1 above 255", 3, new int[] {255, 255, 255, 251}, 255, 254);
        become("p0 + 1 is 255", 3, new int[] {254, 254, 254, 250}, 255, 253);
        become("q0 + 1 above 255", 4, new int[] {250, 255, 255, 255}, 254, 255);
        become("q0 - 1 below 0", 3, new int[] {4, 0, 0, 0}, 1, 0);
        become("q0 - 1 is 0", 3, new int[] {5, 1, 1, 1}, 2, 0);
        become("p0 - 1 below 0", 4, new int[] {0, 0, 0, 5}, 0, 1);
    }

    private static void changedLines() {
        Check.sentence("the number of its lines (across edges) of which at least one sample was changed by the filter");
        // A step of 1 gives D = 0, one of 2 gives D = 1, one of -1 gives 0, one of -2 gives -1.
        lines("no step", 0, 100, 100, 100, 100, 0);
        lines("a step of 1", 0, 100, 100, 101, 101, 0);
        lines("a step of 2", 0, 100, 100, 102, 102, 4);
        lines("a step of -1", 0, 101, 101, 100, 100, 0);
        lines("a step of -2", 0, 102, 102, 100, 100, 4);
        // One sample alone is changed when the other one is at its limit.
        lines("q0 alone", 3, 255, 255, 255, 251, 4);
        lines("p0 alone", 3, 4, 0, 0, 0, 4);
        // One line of four.
        BlockPictures x = UnitBits.decoder(1, 0);
        UnitBits bits = UnitBits.key(9, 0).plain(100).block(1, (c, r) -> r == 2 ? 103 : 200);
        for (int n = 2; n < 16; n++) {
            bits.plain(FAR[n]);
        }
        bits.send(x, 5);
        Check.due("one line", x.smoothed(), 1);
        x.reset();
        Check.due("none decoded", x.smoothed(), 0);
    }
}
