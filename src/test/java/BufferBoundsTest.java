/** The boundary cases of "THE BUFFER", a method for each sentence. */
public final class BufferBoundsTest {
    public static void main(String[] args) {
        keyShowsAll();
        keyWithEqualOrders();
        keyEmpties();
        keyTakesParameters();
        releasedOne();
        asManyReferencesAsPlaces();
        neitherReferenceNorWaiting();
        allPlacesTaken();
        notAboveItsOwn();
        noneWaits();
        shownAtOnce();
        leastOrder();
        equalOrders();
        leavesUnlessReference();
        comesIn();
        Check.finish();
    }

    private static BlockPictures places(int count) {
        return UnitBits.decoder(count, 0);
    }

    private static void keyShowsAll() {
        Check.sentence("a key picture: all pictures that WAIT are shown, by ascending order");
        BlockPictures x = places(4);
        Pictures.key(x, 1);
        Pictures.shows("nothing waits before the first", x);
        Pictures.key(x, 0);
        Pictures.shows("one waits", x, 1);
        x = places(4);
        Pictures.key(x, 255);
        Pictures.other(x, 128);
        Pictures.reference(x, 0);
        Pictures.other(x, 127);
        Pictures.shows("four places are enough", x);
        Pictures.key(x, 50);
        Pictures.shows("four wait", x, 0, 127, 128, 255);
        // One that has been shown waits no more, though it is a reference still.
        x = places(1);
        Pictures.key(x, 10);
        Pictures.other(x, 20);
        Pictures.shows("before", x, 10, 20);
        Pictures.holds("before", x, 10, 1);
        Pictures.key(x, 30);
        Pictures.shows("none waits", x, 10, 20);
        Pictures.holds("none waits", x, 30, 3);
    }

    private static void keyWithEqualOrders() {
        Check.sentence("(of equal ones the earliest decoded first)");
        for (int count = 1; count <= 4; count++) {
            BlockPictures x = places(4);
            Pictures.key(x, 7, 11);
            for (int k = 2; k <= count; k++) {
                Pictures.next(x, k % 2, 7, 10 + k, -1);
            }
            Pictures.key(x, 1, 99);
            Check.due("shown()", x.shown(), count);
            Check.due("the last of " + count, x.sample(0), 10 + count);
        }
        // A lower one comes first, wherever it stands.
        BlockPictures x = places(4);
        Pictures.key(x, 7, 11);
        Pictures.next(x, 0, 7, 12, -1);
        Pictures.next(x, 0, 6, 13, -1);
        Check.due("end()", x.end(), 3);
        Check.due("order(2)", x.order(2), 6);
        Check.due("the later one of order 7", x.sample(0), 12);
    }

    private static void keyEmpties() {
        Check.sentence("the buffer is empty then");
        BlockPictures x = places(4);
        Pictures.key(x, 10);
        Pictures.reference(x, 20);
        Pictures.reference(x, 30);
        Pictures.key(x, 5);
        Pictures.holds("a key picture alone", x, 5, 3);
        // Its own references are gone: a = 1 is not below the one that there is.
        UnitBits.next(9, 1).copied(16).send(x, 1);
        Check.due("fault()", x.fault(), 8);
    }

    private static void keyTakesParameters() {
        Check.sentence("and pending parameters, if there are any, are taken (and are pending no more)");
        BlockPictures x = places(1);
        Pictures.key(x, 10);
        UnitBits.parameters(3, 4).send(x, 7);
        Pictures.reference(x, 11);
        Pictures.holds("not by a next picture", x, 11, 3);
        Pictures.key(x, 12);
        Pictures.reference(x, 13);
        Pictures.reference(x, 14);
        Pictures.holds("three places", x, 12, 3, 13, 3, 14, 3);
        // If there are none, the places stay.
        Pictures.key(x, 15);
        Pictures.reference(x, 16);
        Pictures.reference(x, 17);
        Pictures.holds("three places still", x, 15, 3, 16, 3, 17, 3);
    }

    private static void releasedOne() {
        Check.sentence("A next picture: the reference to be released is one no more");
        BlockPictures x = fourReferences(-1);
        Pictures.shows("none released, so the earliest one goes", x, 10);
        Pictures.holds("none released", x, 20, 3, 30, 3, 40, 3, 50, 3);
        x = fourReferences(3);
        Pictures.shows("the last one", x, 10);
        Pictures.holds("the last one", x, 20, 3, 30, 3, 40, 3, 50, 3);
        // The released one makes room when it has been shown; those before it are references still.
        x = fourReferences(2);
        Pictures.shows("reference 2", x, 10, 20);
        Pictures.holds("reference 2", x, 10, 1, 30, 3, 40, 3, 50, 3);
        x = fourReferences(1);
        Pictures.shows("reference 1", x, 10, 20, 30);
        Pictures.holds("reference 1", x, 10, 1, 20, 1, 40, 3, 50, 3);
        x = fourReferences(0);
        Pictures.shows("the first one", x, 10, 20, 30, 40);
        Pictures.holds("the first one", x, 10, 1, 20, 1, 30, 1, 50, 3);
        // It counts the references alone, not what else is held.
        x = places(4);
        Pictures.key(x, 10);
        Pictures.other(x, 20);
        Pictures.reference(x, 30);
        Pictures.next(x, 1, 40, 40, 1);
        Pictures.holds("reference 1 of two", x, 10, 2, 20, 2, 30, 3, 40, 3);
    }

    /** Four places with the references 10, 20, 30, 40, then the reference 50 that releases m (below 0: none). */
    private static BlockPictures fourReferences(int m) {
        BlockPictures x = places(4);
        Pictures.key(x, 10);
        Pictures.reference(x, 20);
        Pictures.reference(x, 30);
        Pictures.reference(x, 40);
        Pictures.next(x, 1, 50, 50, m);
        return x;
    }

    private static void asManyReferencesAsPlaces() {
        Check.sentence("if the picture is to be a reference and there are as many references as places, the earliest is one no more");
        for (int count = 1; count <= 4; count++) {
            BlockPictures x = places(count);
            Pictures.key(x, 10);
            for (int k = 1; k < count; k++) {
                Pictures.reference(x, 10 + k);
                Check.due("one less than places: the earliest stays", x.heldState(0), 43);
            }
            Check.due("as many as places", x.held(), count);
            // The earliest is not the one of least order.
            Pictures.reference(x, 5);
            Pictures.shows("one more, " + count + " places", x, 10);
            Check.due("held()", x.held(), count);
            Check.due("the earliest now", x.heldState(0), count == 1 ? 23 : 47);
            Check.due("the latest now", x.heldState(count - 1), 23);
        }
        // One that is not to be a reference leaves them as they are.
        BlockPictures x = places(2);
        Pictures.key(x, 10);
        Pictures.reference(x, 11);
        Pictures.other(x, 12);
        Pictures.holds("no reference", x, 10, 1, 11, 1);
        // After a release there is one less: the earliest stays.
        x = places(2);
        Pictures.key(x, 10);
        Pictures.reference(x, 11);
        Pictures.next(x, 1, 12, 12, 0);
        Pictures.holds("after a release", x, 10, 1, 12, 3);
    }

    private static void neitherReferenceNorWaiting() {
        Check.sentence("Pictures that neither are references nor wait leave the buffer");
        BlockPictures x = places(2);
        Pictures.key(x, 10);
        Pictures.other(x, 11);
        Pictures.other(x, 12);
        Pictures.holds("10 was shown", x, 10, 1, 12, 2);
        // 10 is released and leaves; 12 waits and stays; nothing need be shown.
        Pictures.next(x, 1, 13, 13, 0);
        Pictures.holds("10 left", x, 12, 2, 13, 3);
        Pictures.shows("nothing more", x, 10, 11);
        // One that waits stays when it is released.
        x = places(3);
        Pictures.key(x, 10);
        Pictures.next(x, 1, 11, 11, 0);
        Pictures.holds("10 waits", x, 10, 2, 11, 3);
        // One that is a reference stays when it has been shown.
        x = places(2);
        Pictures.key(x, 10);
        Pictures.other(x, 11);
        Pictures.other(x, 12);
        Pictures.other(x, 13);
        Pictures.holds("10 is a reference", x, 10, 1, 13, 2);
    }

    private static void allPlacesTaken() {
        Check.sentence("As long as all places are taken");
        for (int count = 1; count <= 4; count++) {
            BlockPictures x = places(count);
            Pictures.key(x, 100);
            for (int k = 1; k < count; k++) {
                // A place is free: even the lowest one of all is not shown.
                Pictures.other(x, 100 - k);
                Check.due("a place is free", x.shown(), 0);
                Check.due("held()", x.held(), k + 1);
            }
            Pictures.other(x, 50);
            Check.due("all are taken", x.shown(), 1);
            Check.due("held()", x.held(), count);
            Check.due("order(0)", x.order(0), 50);
        }
        // As long as: two are shown for one place when the first is a reference.
        BlockPictures x = places(2);
        Pictures.key(x, 10);
        Pictures.other(x, 11);
        Pictures.other(x, 12);
        Pictures.shows("two for a place", x, 10, 11);
        // And the picture itself when all places are taken by references that were shown.
        x = places(2);
        Pictures.key(x, 10);
        Pictures.reference(x, 11);
        Pictures.other(x, 12);
        Pictures.shows("all three", x, 10, 11, 12);
        Pictures.holds("all three", x, 10, 1, 11, 1);
    }

    private static void notAboveItsOwn() {
        Check.sentence("when the picture is not to be a reference and none that waits has an order that is not above its own");
        for (int order = 18; order <= 22; order++) {
            BlockPictures x = places(3);
            Pictures.key(x, 20);
            Pictures.other(x, 30);
            Pictures.other(x, 40);
            Pictures.next(x, 0, order, 77, -1);
            if (order < 20) {
                Check.due("below: itself", x.shown(), 1);
                Check.due("below: its sample", x.sample(0), 77);
                Check.due("below: held()", x.held(), 3);
            } else if (order == 20) {
                // 20 is not above 20: it comes first, stays as a reference, and then none is left that is not above.
                Check.due("equal: the waiting one and itself", x.shown(), 2);
                Check.due("equal: its sample", x.sample(0), 77);
                Check.due("equal: heldState(0)", x.heldState(0), 81);
            } else {
                Check.due("above: the waiting one and itself", x.shown(), 2);
                Check.due("above: order(1)", x.order(1), 20);
                Check.due("above: order(0)", x.order(0), order);
            }
        }
        // The one of equal order leaves the buffer, and so it comes in itself.
        BlockPictures x = places(2);
        Pictures.key(x, 50);
        Pictures.other(x, 20);
        Pictures.next(x, 0, 20, 77, -1);
        Check.due("equal and no reference: shown()", x.shown(), 1);
        Check.due("the waiting one was shown", x.sample(0), 20);
        Check.due("it came in", x.heldSample(1, 0), 77);
        // One that is to be a reference is never shown at once.
        x = places(2);
        Pictures.key(x, 20);
        Pictures.other(x, 30);
        Pictures.reference(x, 19);
        Pictures.shows("a reference", x, 20, 30);
        Pictures.holds("a reference", x, 20, 1, 19, 3);
    }

    private static void noneWaits() {
        Check.sentence("none that waits (all places taken and none waits)");
        for (int count = 1; count <= 4; count++) {
            BlockPictures x = places(count);
            Pictures.key(x, 10);
            for (int k = 1; k < count; k++) {
                Pictures.reference(x, 10 + k);
            }
            Pictures.other(x, 30);
            Check.due("all were shown", x.shown(), count + 1);
            // Its order is below and above those of the references; they do not wait.
            for (int order : new int[] {0, 10, 255}) {
                int before = x.shown();
                Pictures.other(x, order);
                Check.due("it alone is shown", x.shown(), before + 1);
                Check.due("order(0)", x.order(0), order);
                Check.due("held()", x.held(), count);
            }
            Pictures.reference(x, 3);
            Check.due("a reference comes in", x.heldState(count - 1), 15);
            Check.due("and is not shown", x.order(0), 255);
        }
    }

    private static void shownAtOnce() {
        Check.sentence("it is shown and does not come into the buffer");
        BlockPictures x = places(1);
        Pictures.key(x, 10);
        Pictures.other(x, 9);
        Pictures.shows("at once", x, 9);
        Pictures.holds("at once", x, 10, 3);
        // It is the latest decoded one all the same.
        Check.due("vector(0)", x.vector(0), -1);
        UnitBits.next(8, 0).copied(16).send(x, 1);
        Check.due("vector(0)", x.vector(0), 256 * 64 + 64);
        Pictures.holds("at once again", x, 10, 3);
        Check.due("end() does not show it again", x.end(), 1);
    }

    private static void leastOrder() {
        Check.sentence("otherwise the waiting one of least order is shown and waits no more");
        int[][] rows = {{30, 20, 10}, {30, 10, 20}, {20, 30, 10}, {20, 10, 30}, {10, 30, 20}, {10, 20, 30}};
        for (int[] row : rows) {
            BlockPictures x = places(4);
            Pictures.key(x, 90);
            for (int order : row) {
                Pictures.other(x, order);
            }
            Pictures.other(x, 91);
            Check.due("one was shown", x.shown(), 1);
            Check.due("order(0)", x.order(0), 10);
            Pictures.other(x, 92);
            Check.due("order(0)", x.order(0), 20);
            Pictures.other(x, 93);
            Check.due("order(0)", x.order(0), 30);
            Check.due("shown()", x.shown(), 3);
        }
    }

    private static void equalOrders() {
        Check.sentence("of equal ones the earliest decoded");
        BlockPictures x = places(4);
        Pictures.key(x, 90);
        Pictures.next(x, 0, 5, 51, -1);
        Pictures.next(x, 0, 5, 52, -1);
        Pictures.next(x, 0, 5, 53, -1);
        for (int k = 1; k <= 3; k++) {
            Pictures.other(x, 100 + k);
            Check.due("shown()", x.shown(), k);
            Check.due("order(0)", x.order(0), 5);
            Check.due("the earliest left", x.sample(0), 50 + k);
        }
        // One that is decoded now and has the same order comes behind all of them.
        x = places(2);
        Pictures.key(x, 90);
        Pictures.next(x, 0, 5, 51, -1);
        Pictures.next(x, 0, 5, 52, -1);
        Check.due("the earlier one", x.sample(0), 51);
        Check.due("shown()", x.shown(), 1);
    }

    private static void leavesUnlessReference() {
        Check.sentence("and leaves if it is not a reference");
        BlockPictures x = places(2);
        Pictures.key(x, 90);
        Pictures.other(x, 10);
        Pictures.other(x, 20);
        Pictures.holds("10 left", x, 90, 3, 20, 2);
        x = places(2);
        Pictures.key(x, 10);
        Pictures.other(x, 20);
        Pictures.other(x, 30);
        Pictures.holds("10 stayed, 20 left", x, 10, 1, 30, 2);
    }

    private static void comesIn() {
        Check.sentence("Then, unless it has been shown, the picture comes into the buffer, waits, and is a reference or not");
        for (int order : new int[] {0, 255}) {
            BlockPictures x = places(4);
            Pictures.key(x, order);
            Pictures.holds("key", x, order, 3);
            Pictures.other(x, order);
            Pictures.reference(x, order);
            Pictures.holds("all", x, order, 3, order, 2, order, 3);
        }
    }
}
