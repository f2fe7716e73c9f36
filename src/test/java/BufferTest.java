/** The buffer, and promises 7 to 12: shown, order, sample, held, heldState, heldSample. */
public final class BufferTest {
    public static void main(String[] args) {
        answersOutOfRange();
        growsAndShows();
        passesBy();
        equalOrders();
        earliestReferenceLeaves();
        release();
        keyPictures();
        pendingParameters();
        onePlace();
        manyShown();
        samplesOfWhatIsShown();
        Check.finish();
    }

    private static void answersOutOfRange() {
        BlockPictures x = UnitBits.decoder(2, 0);
        Pictures.key(x, 10);
        for (int wrong : new int[] {-1, 256, 257, Integer.MIN_VALUE, Integer.MAX_VALUE}) {
            Check.due("heldState(" + wrong + ")", x.heldState(wrong), -1);
            Check.due("heldSample(" + wrong + ", 0)", x.heldSample(wrong, 0), -1);
            Check.due("heldSample(0, " + wrong + ")", x.heldSample(0, wrong), -1);
        }
        Check.due("order(0) before", x.order(0), -1);
        Check.due("sample(0) before", x.sample(0), -1);
        x.end();
        for (int wrong : new int[] {-1, 256, Integer.MIN_VALUE, Integer.MAX_VALUE}) {
            Check.due("sample(" + wrong + ")", x.sample(wrong), -1);
            Check.due("order(" + wrong + ")", x.order(wrong), -1);
        }
        Check.due("order(0)", x.order(0), 10);
        Check.due("order(1)", x.order(1), -1);
    }

    private static void growsAndShows() {
        BlockPictures x = UnitBits.decoder(3, 0);
        Pictures.key(x, 10);
        Pictures.holds("one", x, 10, 3);
        Pictures.reference(x, 40);
        Pictures.other(x, 20);
        Pictures.holds("three", x, 10, 3, 40, 3, 20, 2);
        Pictures.shows("three", x);
        // All places are taken: 10 is shown and stays as a reference, 20 is shown and leaves.
        Pictures.other(x, 30);
        Pictures.holds("after 30", x, 10, 1, 40, 3, 30, 2);
        Pictures.shows("after 30", x, 10, 20);
        Pictures.reference(x, 50);
        Pictures.holds("after 50", x, 10, 1, 40, 3, 50, 3);
        Pictures.shows("after 50", x, 10, 20, 30);
        Check.due("end()", x.end(), 2);
        Pictures.shows("after end()", x, 10, 20, 30, 40, 50);
        Pictures.holds("after end()", x);
    }

    private static void passesBy() {
        BlockPictures x = UnitBits.decoder(2, 0);
        Pictures.key(x, 20);
        Pictures.reference(x, 30);
        Pictures.other(x, 19);
        Pictures.shows("below all that wait", x, 19);
        Pictures.holds("below all that wait", x, 20, 3, 30, 3);
        // Not above its own: the waiting one of order 20 comes first, then it passes by as no place is free.
        Pictures.other(x, 20);
        Pictures.shows("equal", x, 19, 20, 20);
        Pictures.holds("equal", x, 20, 1, 30, 3);
        Pictures.other(x, 40);
        Pictures.shows("none waits any more", x, 19, 20, 20, 30, 40);
        Pictures.holds("none waits any more", x, 20, 1, 30, 1);
        // One that is to be a reference is not shown before it is in the buffer.
        Pictures.reference(x, 5);
        Pictures.shows("a reference", x, 19, 20, 20, 30, 40);
        Pictures.holds("a reference", x, 30, 1, 5, 3);
    }

    private static void equalOrders() {
        BlockPictures x = UnitBits.decoder(3, 0);
        Pictures.key(x, 7, 10);
        Pictures.next(x, 0, 7, 20, -1);
        Pictures.next(x, 0, 7, 30, -1);
        Pictures.next(x, 0, 9, 40, -1);
        Check.due("the first two of equal order", x.shown(), 2);
        Check.due("the second is the latest", x.sample(9), 20);
        Check.due("held()", x.held(), 3);
        Check.due("end()", x.end(), 2);
        Check.due("sample(9)", x.sample(9), 40);
        x = UnitBits.decoder(3, 0);
        Pictures.key(x, 7, 10);
        Pictures.next(x, 0, 7, 20, -1);
        Pictures.next(x, 0, 7, 30, -1);
        Check.due("end()", x.end(), 3);
        Check.due("the earliest decoded first", x.sample(9), 30);
    }

    private static void earliestReferenceLeaves() {
        BlockPictures x = UnitBits.decoder(2, 0);
        Pictures.key(x, 10);
        Pictures.reference(x, 30);
        // 10 is a reference no more, but it waits: it is shown and leaves.
        Pictures.reference(x, 20);
        Pictures.shows("after 20", x, 10);
        Pictures.holds("after 20", x, 30, 3, 20, 3);
        // 30 is a reference no more; 20 is shown first and stays as a reference, then 30.
        Pictures.reference(x, 40);
        Pictures.shows("after 40", x, 10, 20, 30);
        Pictures.holds("after 40", x, 20, 1, 40, 3);
        // 20 neither waits nor is a reference now: it leaves, and nothing need be shown.
        Pictures.reference(x, 1);
        Pictures.shows("after 1", x, 10, 20, 30);
        Pictures.holds("after 1", x, 40, 3, 1, 3);
    }

    private static void release() {
        for (int m = 0; m < 3; m++) {
            BlockPictures x = UnitBits.decoder(4, 0);
            Pictures.key(x, 10);
            Pictures.reference(x, 20);
            Pictures.reference(x, 30);
            Pictures.next(x, 2, 40, 40, m);
            Pictures.holds("released " + m, x, 10, m == 2 ? 2 : 3, 20, m == 1 ? 2 : 3, 30, m == 0 ? 2 : 3, 40, 3);
        }
        // With k = 2 the list begins with 10, but m counts by latest decoded first.
        BlockPictures x = UnitBits.decoder(4, 0);
        Pictures.key(x, 10);
        Pictures.reference(x, 20);
        Pictures.reference(x, 30);
        new UnitBits().number(40).signed(0).number(0).raw("1").number(2).raw("1").number(0).copied(16).send(x, 0x21);
        Check.due("copied from 10", x.heldSample(3, 7), 10);
        Check.due("30 is released", x.heldState(2), 30 * 4 + 2);
        Check.due("10 is not", x.heldState(0), 43);
        // A released one makes room: the earliest reference stays.
        x = UnitBits.decoder(2, 0);
        Pictures.key(x, 10);
        Pictures.reference(x, 20);
        Pictures.next(x, 1, 30, 30, 0);
        Pictures.shows("released with full places", x, 10, 20);
        Pictures.holds("released with full places", x, 10, 1, 30, 3);
        // Released and shown before: it leaves at once.
        Pictures.next(x, 1, 50, 50, 1);
        Pictures.shows("released and shown", x, 10, 20);
        Pictures.holds("released and shown", x, 30, 3, 50, 3);
        // Rank 3 makes a reference, rank 0 none.
        Pictures.next(x, 3, 60, 60, -1);
        Pictures.holds("rank 3", x, 50, 3, 60, 3);
    }

    private static void keyPictures() {
        BlockPictures x = UnitBits.decoder(4, 0);
        Pictures.key(x, 90);
        Pictures.reference(x, 30);
        Pictures.other(x, 60);
        Pictures.key(x, 5);
        Pictures.shows("a key picture", x, 30, 60, 90);
        Pictures.holds("a key picture", x, 5, 3);
        // Rank 0 makes no difference to a key picture: the heads sent were 5.
        UnitBits.key(6, 0).plain(6).means(15).send(x, 0x65);
        Pictures.holds("rank 3", x, 6, 3);
        Pictures.other(x, 7);
        Check.due("references begin anew", x.fault(), 0);
        UnitBits.next(8, 1).copied(16).send(x, 1);
        Check.due("there is only one", x.fault(), 8);
    }

    private static void pendingParameters() {
        BlockPictures x = UnitBits.decoder(2, 0);
        Pictures.key(x, 10);
        UnitBits.parameters(4, 0).send(x, 7);
        Pictures.reference(x, 20);
        Pictures.reference(x, 30);
        Pictures.shows("two places yet", x, 10);
        Pictures.holds("two places yet", x, 20, 3, 30, 3);
        Pictures.key(x, 40);
        Pictures.reference(x, 50);
        Pictures.reference(x, 60);
        Pictures.reference(x, 70);
        Pictures.holds("four places", x, 40, 3, 50, 3, 60, 3, 70, 3);
        // Taken parameters stay for the next key picture.
        Pictures.key(x, 80);
        Pictures.reference(x, 81);
        Pictures.reference(x, 82);
        Pictures.holds("four places still", x, 80, 3, 81, 3, 82, 3);
        // Later pending ones take the place of earlier ones.
        UnitBits.parameters(3, 0).send(x, 7);
        UnitBits.parameters(1, 0).send(x, 7);
        Pictures.key(x, 90);
        Pictures.reference(x, 91);
        Pictures.holds("one place", x, 91, 3);
    }

    private static void onePlace() {
        BlockPictures x = UnitBits.decoder(1, 0);
        Pictures.key(x, 10);
        Pictures.other(x, 5);
        Pictures.other(x, 15);
        Pictures.shows("one place", x, 5, 10, 15);
        Pictures.holds("one place", x, 10, 1);
        Pictures.reference(x, 3);
        Pictures.holds("a reference instead", x, 3, 3);
        Pictures.shows("a reference instead", x, 5, 10, 15);
    }

    private static void manyShown() {
        BlockPictures x = UnitBits.decoder(1, 0);
        Pictures.key(x, 100);
        for (int k = 0; k < 20; k++) {
            Pictures.other(x, k);
            Check.due("shown()", x.shown(), k + 1);
            for (int back = 0; back < 10; back++) {
                Check.due("order(" + back + ") of " + (k + 1), x.order(back), back > 7 || back > k ? -1 : k - back);
            }
        }
    }

    private static void samplesOfWhatIsShown() {
        BlockPictures x = UnitBits.decoder(1, 0);
        UnitBits.key(3, 0).blocks((column, row) -> 16 * column + row).send(x, 5);
        for (int i = 0; i < 256; i++) {
            Check.due("heldSample(0, " + i + ")", x.heldSample(0, i), i % 16 * 16 + i / 16);
        }
        Pictures.other(x, 9);
        // Order 3 was shown first, then 9: the latest is what counts, and the reference keeps its samples.
        Check.due("shown()", x.shown(), 2);
        Check.due("sample(17)", x.sample(17), 9);
        Check.due("heldSample(0, 17)", x.heldSample(0, 17), 17);
    }
}
