/** The buffer, and promises 7 to 12: shown, order, sample, held, heldState, heldSample. */
public final class BufferTest {
    public static void main(String[] args) {
        answersOutOfRange();
        growsAndShows();
        passesBy();
        equalOrders();
        earliestReferenceLeaves();
        release();
        keyPictures();
        pendingParameters();
        onePlace();
        manyShown();
        samplesOfWhatIsShown();
        Check.finish();
    }

    /** A key picture whose samples are all value. */
    private static void key(BlockPictures x, int order, int value) {
        UnitBits.key(order, 0).plain(value).means(15).send(x, 5);
    }

    /** A next picture whose samples are all value; released below 0: none. */
    private static void next(BlockPictures x, int rank, int order, int value, int released) {
        UnitBits bits = UnitBits.next(order, 0);
        if (rank > 0) {
            bits.raw(released < 0 ? "0" : "1");
            if (released >= 0) {
                bits.number(released);
            }
        }
        bits.plainInNext(value);
        for (int n = 1; n < 16; n++) {
            bits.raw("11 01 0");
        }
        bits.send(x, rank << 5 | 1);
    }

    private static void reference(BlockPictures x, int order) {
        next(x, 1, order, order, -1);
    }

    private static void other(BlockPictures x, int order) {
        next(x, 0, order, order, -1);
    }

    /** What the buffer holds: order, then 1 for a reference, 2 for one that waits, 3 for both. */
    private static void holds(String what, BlockPictures x, int... pairs) {
        Check.due(what + ": fault()", x.fault(), 0);
        Check.due(what + ": held()", x.held(), pairs.length / 2);
        for (int k = 0; k < pairs.length / 2; k++) {
            Check.due(what + ": heldState(" + k + ")", x.heldState(k), 4 * pairs[2 * k] + pairs[2 * k + 1]);
            Check.due(what + ": heldSample(" + k + ", 255)", x.heldSample(k, 255), pairs[2 * k]);
        }
        Check.due(what + ": heldState behind", x.heldState(pairs.length / 2), -1);
        Check.due(what + ": heldSample behind", x.heldSample(pairs.length / 2, 0), -1);
    }

    /** All orders shown so far, earliest first (eight at the most). */
    private static void shows(String what, BlockPictures x, int... orders) {
        Check.due(what + ": shown()", x.shown(), orders.length);
        for (int k = 0; k < orders.length; k++) {
            Check.due(what + ": order(" + k + ")", x.order(k), orders[orders.length - 1 - k]);
        }
        Check.due(what + ": order behind", x.order(orders.length), -1);
        Check.due(what + ": sample(0)", x.sample(0), orders.length == 0 ? -1 : orders[orders.length - 1]);
        Check.due(what + ": sample(255)", x.sample(255), orders.length == 0 ? -1 : orders[orders.length - 1]);
    }

    private static void answersOutOfRange() {
        BlockPictures x = UnitBits.decoder(2, 0);
        key(x, 10, 10);
        for (int wrong : new int[] {-1, 256, 257, Integer.MIN_VALUE, Integer.MAX_VALUE}) {
            Check.due("heldState(" + wrong + ")", x.heldState(wrong), -1);
            Check.due("heldSample(" + wrong + ", 0)", x.heldSample(wrong, 0), -1);
            Check.due("heldSample(0, " + wrong + ")", x.heldSample(0, wrong), -1);
        }
        Check.due("order(0) before", x.order(0), -1);
        Check.due("sample(0) before", x.sample(0), -1);
        x.end();
        for (int wrong : new int[] {-1, 256, Integer.MIN_VALUE, Integer.MAX_VALUE}) {
            Check.due("sample(" + wrong + ")", x.sample(wrong), -1);
            Check.due("order(" + wrong + ")", x.order(wrong), -1);
        }
        Check.due("order(0)", x.order(0), 10);
        Check.due("order(1)", x.order(1), -1);
    }

    private static void growsAndShows() {
        BlockPictures x = UnitBits.decoder(3, 0);
        key(x, 10, 10);
        holds("one", x, 10, 3);
        reference(x, 40);
        other(x, 20);
        holds("three", x, 10, 3, 40, 3, 20, 2);
        shows("three", x);
        // All places are taken: 10 is shown and stays as a reference, 20 is shown and leaves.
        other(x, 30);
        holds("after 30", x, 10, 1, 40, 3, 30, 2);
        shows("after 30", x, 10, 20);
        reference(x, 50);
        holds("after 50", x, 10, 1, 40, 3, 50, 3);
        shows("after 50", x, 10, 20, 30);
        Check.due("end()", x.end(), 2);
        shows("after end()", x, 10, 20, 30, 40, 50);
        holds("after end()", x);
    }

    private static void passesBy() {
        BlockPictures x = UnitBits.decoder(2, 0);
        key(x, 20, 20);
        reference(x, 30);
        other(x, 19);
        shows("below all that wait", x, 19);
        holds("below all that wait", x, 20, 3, 30, 3);
        // Not above its own: the waiting one of order 20 comes first, then it passes by as no place is free.
        other(x, 20);
        shows("equal", x, 19, 20, 20);
        holds("equal", x, 20, 1, 30, 3);
        other(x, 40);
        shows("none waits any more", x, 19, 20, 20, 30, 40);
        holds("none waits any more", x, 20, 1, 30, 1);
        // One that is to be a reference is not shown before it is in the buffer.
        reference(x, 5);
        shows("a reference", x, 19, 20, 20, 30, 40);
        holds("a reference", x, 30, 1, 5, 3);
    }

    private static void equalOrders() {
        BlockPictures x = UnitBits.decoder(3, 0);
        key(x, 7, 10);
        next(x, 0, 7, 20, -1);
        next(x, 0, 7, 30, -1);
        next(x, 0, 9, 40, -1);
        Check.due("the first two of equal order", x.shown(), 2);
        Check.due("the second is the latest", x.sample(9), 20);
        Check.due("held()", x.held(), 3);
        Check.due("end()", x.end(), 2);
        Check.due("sample(9)", x.sample(9), 40);
        x = UnitBits.decoder(3, 0);
        key(x, 7, 10);
        next(x, 0, 7, 20, -1);
        next(x, 0, 7, 30, -1);
        Check.due("end()", x.end(), 3);
        Check.due("the earliest decoded first", x.sample(9), 30);
    }

    private static void earliestReferenceLeaves() {
        BlockPictures x = UnitBits.decoder(2, 0);
        key(x, 10, 10);
        reference(x, 30);
        // 10 is a reference no more, but it waits: it is shown and leaves.
        reference(x, 20);
        shows("after 20", x, 10);
        holds("after 20", x, 30, 3, 20, 3);
        // 30 is a reference no more; 20 is shown first and stays as a reference, then 30.
        reference(x, 40);
        shows("after 40", x, 10, 20, 30);
        holds("after 40", x, 20, 1, 40, 3);
        // 20 neither waits nor is a reference now: it leaves, and nothing need be shown.
        reference(x, 1);
        shows("after 1", x, 10, 20, 30);
        holds("after 1", x, 40, 3, 1, 3);
    }

    private static void release() {
        for (int m = 0; m < 3; m++) {
            BlockPictures x = UnitBits.decoder(4, 0);
            key(x, 10, 10);
            reference(x, 20);
            reference(x, 30);
            next(x, 2, 40, 40, m);
            holds("released " + m, x, 10, m == 2 ? 2 : 3, 20, m == 1 ? 2 : 3, 30, m == 0 ? 2 : 3, 40, 3);
        }
        // With k = 2 the list begins with 10, but m counts by latest decoded first.
        BlockPictures x = UnitBits.decoder(4, 0);
        key(x, 10, 10);
        reference(x, 20);
        reference(x, 30);
        new UnitBits().number(40).signed(0).number(0).raw("1").number(2).raw("1").number(0).copied(16).send(x, 0x21);
        Check.due("copied from 10", x.heldSample(3, 7), 10);
        Check.due("30 is released", x.heldState(2), 30 * 4 + 2);
        Check.due("10 is not", x.heldState(0), 43);
        // A released one makes room: the earliest reference stays.
        x = UnitBits.decoder(2, 0);
        key(x, 10, 10);
        reference(x, 20);
        next(x, 1, 30, 30, 0);
        shows("released with full places", x, 10, 20);
        holds("released with full places", x, 10, 1, 30, 3);
        // Released and shown before: it leaves at once.
        next(x, 1, 50, 50, 1);
        shows("released and shown", x, 10, 20);
        holds("released and shown", x, 30, 3, 50, 3);
        // Rank 3 makes a reference, rank 0 none.
        next(x, 3, 60, 60, -1);
        holds("rank 3", x, 50, 3, 60, 3);
    }

    private static void keyPictures() {
        BlockPictures x = UnitBits.decoder(4, 0);
        key(x, 90, 90);
        reference(x, 30);
        other(x, 60);
        key(x, 5, 5);
        shows("a key picture", x, 30, 60, 90);
        holds("a key picture", x, 5, 3);
        // Rank 0 makes no difference to a key picture: the heads sent were 5.
        UnitBits.key(6, 0).plain(6).means(15).send(x, 0x65);
        holds("rank 3", x, 6, 3);
        other(x, 7);
        Check.due("references begin anew", x.fault(), 0);
        UnitBits.next(8, 1).copied(16).send(x, 1);
        Check.due("there is only one", x.fault(), 8);
    }

    private static void pendingParameters() {
        BlockPictures x = UnitBits.decoder(2, 0);
        key(x, 10, 10);
        UnitBits.parameters(4, 0).send(x, 7);
        reference(x, 20);
        reference(x, 30);
        shows("two places yet", x, 10);
        holds("two places yet", x, 20, 3, 30, 3);
        key(x, 40, 40);
        reference(x, 50);
        reference(x, 60);
        reference(x, 70);
        holds("four places", x, 40, 3, 50, 3, 60, 3, 70, 3);
        // Taken parameters stay for the next key picture.
        key(x, 80, 80);
        reference(x, 81);
        reference(x, 82);
        holds("four places still", x, 80, 3, 81, 3, 82, 3);
        // Later pending ones take the place of earlier ones.
        UnitBits.parameters(3, 0).send(x, 7);
        UnitBits.parameters(1, 0).send(x, 7);
        key(x, 90, 90);
        reference(x, 91);
        holds("one place", x, 91, 3);
    }

    private static void onePlace() {
        BlockPictures x = UnitBits.decoder(1, 0);
        key(x, 10, 10);
        other(x, 5);
        other(x, 15);
        shows("one place", x, 5, 10, 15);
        holds("one place", x, 10, 1);
        reference(x, 3);
        holds("a reference instead", x, 3, 3);
        shows("a reference instead", x, 5, 10, 15);
    }

    private static void manyShown() {
        BlockPictures x = UnitBits.decoder(1, 0);
        key(x, 100, 100);
        for (int k = 0; k < 20; k++) {
            other(x, k);
            Check.due("shown()", x.shown(), k + 1);
            for (int back = 0; back < 10; back++) {
                Check.due("order(" + back + ") of " + (k + 1), x.order(back), back > 7 || back > k ? -1 : k - back);
            }
        }
    }

    private static void samplesOfWhatIsShown() {
        BlockPictures x = UnitBits.decoder(1, 0);
        for (int i = 0; i < 256; i++) {
            x.draw(i, i % 16 * 16 + i / 16);
        }
        x.write(5, 3, 0);
        x.pass();
        UnitBits.feed(x, 0, 0, 0);
        for (int i = 0; i < 256; i++) {
            Check.due("heldSample(0, " + i + ")", x.heldSample(0, i), i % 16 * 16 + i / 16);
        }
        other(x, 9);
        // Order 3 was shown first, then 9: the latest is what counts, and the reference keeps its samples.
        Check.due("shown()", x.shown(), 2);
        Check.due("sample(17)", x.sample(17), 9);
        Check.due("heldSample(0, 17)", x.heldSample(0, 17), 17);
    }
}
