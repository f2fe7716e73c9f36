import java.util.function.Consumer;
import java.util.function.Supplier;

/** Tells by all answers, and by what comes later, whether a call changed anything. */
final class Twins {
    private Twins() {
    }

    /** Makes two objects alike, calls one of them, and looks for a difference. */
    static void unchanged(String what, Supplier<BlockPictures> made, Consumer<BlockPictures> call) {
        BlockPictures called = made.get();
        BlockPictures other = made.get();
        call.accept(called);
        alike(what, called, other);
        goOn(what, called, other);
    }

    private static void alike(String what, BlockPictures a, BlockPictures b) {
        Check.due(what + ", then fault()", a.fault(), b.fault());
        Check.due(what + ", then units()", a.units(), b.units());
        Check.due(what + ", then shown()", a.shown(), b.shown());
        Check.due(what + ", then held()", a.held(), b.held());
        Check.due(what + ", then smoothed()", a.smoothed(), b.smoothed());
        for (int k = 0; k < 8; k++) {
            Check.due(what + ", then order(" + k + ")", a.order(k), b.order(k));
            Check.due(what + ", then vector(" + 2 * k + ")", a.vector(2 * k), b.vector(2 * k));
            Check.due(what + ", then sample(" + 36 * k + ")", a.sample(36 * k), b.sample(36 * k));
            Check.due(what + ", then written(" + k + ")", a.written(k), b.written(k));
        }
        for (int k = 0; k < 4; k++) {
            Check.due(what + ", then heldState(" + k + ")", a.heldState(k), b.heldState(k));
            Check.due(what + ", then heldSample(" + k + ", 77)", a.heldSample(k, 77), b.heldSample(k, 77));
        }
    }

    /** Whether both are in a unit, how many zeros were counted, and what is pending is seen by going on. */
    private static void goOn(String what, BlockPictures a, BlockPictures b) {
        Check.due(what + ", then pass()", a.pass(), b.pass());
        for (int value : new int[] {1, 8, 0, 0, 1, 8}) {
            Check.due(what + ", then feed(" + value + ", 1)", a.feed(value, 1), b.feed(value, 1));
            Check.due(what + ", then fault()", a.fault(), b.fault());
        }
        Check.due(what + ", then write(5, 9, 0)", a.write(5, 9, 0), b.write(5, 9, 0));
        for (int k = 5; k < 200; k += 7) {
            Check.due(what + ", then written(" + k + ")", a.written(k), b.written(k));
        }
        Check.due(what + ", then pass()", a.pass(), b.pass());
        Check.due(what + ", then end()", a.end(), b.end());
        alike(what + ", at last", a, b);
    }
}
