/** Flat pictures, most of them with their order as every sample, and what is seen of them afterwards. */
final class Pictures {
    private Pictures() {
    }

    static void key(BlockPictures x, int order) {
        key(x, order, order);
    }

    static void key(BlockPictures x, int order, int value) {
        UnitBits.key(order, 0).plain(value).means(15).send(x, 5);
    }

    /** A next picture that is a reference. */
    static void reference(BlockPictures x, int order) {
        next(x, 1, order, order, -1);
    }

    /** A next picture that is no reference. */
    static void other(BlockPictures x, int order) {
        next(x, 0, order, order, -1);
    }

    /** A next picture, a reference if its rank is above 0; released below 0: none. */
    static void next(BlockPictures x, int rank, int order, int value, int released) {
        UnitBits bits = UnitBits.next(order, 0);
        if (rank > 0) {
            bits.raw(released < 0 ? "0" : "1");
            if (released >= 0) {
                bits.number(released);
            }
        }
        bits.plainInNext(value);
        for (int n = 1; n < 16; n++) {
            bits.raw("11 01 0");
        }
        bits.send(x, rank << 5 | 1);
    }

    /** What the buffer holds: order, then 1 for a reference, 2 for one that waits, 3 for both. */
    static void holds(String what, BlockPictures x, int... pairs) {
        Check.due(what + ": fault()", x.fault(), 0);
        Check.due(what + ": held()", x.held(), pairs.length / 2);
        for (int k = 0; k < pairs.length / 2; k++) {
            Check.due(what + ": heldState(" + k + ")", x.heldState(k), 4 * pairs[2 * k] + pairs[2 * k + 1]);
            Check.due(what + ": heldSample(" + k + ", 255)", x.heldSample(k, 255), pairs[2 * k]);
        }
        Check.due(what + ": heldState behind", x.heldState(pairs.length / 2), -1);
        Check.due(what + ": heldSample behind", x.heldSample(pairs.length / 2, 0), -1);
    }

    /** All orders shown so far, earliest first (eight at the most). */
    static void shows(String what, BlockPictures x, int... orders) {
        Check.due(what + ": shown()", x.shown(), orders.length);
        for (int k = 0; k < orders.length; k++) {
            Check.due(what + ": order(" + k + ")", x.order(k), orders[orders.length - 1 - k]);
        }
        Check.due(what + ": order behind", x.order(orders.length), -1);
        Check.due(what + ": sample(0)", x.sample(0), orders.length == 0 ? -1 : orders[orders.length - 1]);
        Check.due(what + ": sample(255)", x.sample(255), orders.length == 0 ? -1 : orders[orders.length - 1]);
    }
}
