import java.util.function.Consumer;
import java.util.function.Supplier;

/**
 * Makes two objects alike, calls one of them, and looks whether they differ then: by all answers, and, as much of an
 * object is seen only by what comes later, by going on with both in several ways.
 */
final class Twins {
    private final String what;
    private final BlockPictures called;
    private final BlockPictures other;

    private Twins(String what, Supplier<BlockPictures> made, Consumer<BlockPictures> call) {
        this.what = what;
        called = made.get();
        other = made.get();
        call.accept(called);
    }

    /** The calls did the same as far as it can be looked at. */
    static void alike(String what, Supplier<BlockPictures> made, Consumer<BlockPictures> call, Consumer<BlockPictures> others) {
        Twins twins = new Twins(what, made, call);
        others.accept(twins.other);
        twins.look();
    }

    /** The call changed nothing. */
    static void unchanged(String what, Supplier<BlockPictures> made, Consumer<BlockPictures> call) {
        decoderUnchanged(what, made, call);
        writtenUnchanged(what, made, call);
        sourceUnchanged(what, made, call);
    }

    /** The call changed nothing of what was decoded and shown, nor of what the bytes to come will do. */
    static void decoderUnchanged(String what, Supplier<BlockPictures> made, Consumer<BlockPictures> call) {
        new Twins(what, made, call).goOnWithBytes();
        new Twins(what, made, call).goOnWithANextPicture();
        new Twins(what, made, call).goOnWithAKeyPicture();
        new Twins(what, made, call).goOnToTheEnd();
    }

    static void writtenUnchanged(String what, Supplier<BlockPictures> made, Consumer<BlockPictures> call) {
        Twins twins = new Twins(what, made, call);
        for (int k = 0; k < 400; k++) {
            twins.due("written(" + k + ")", twins.called.written(k), twins.other.written(k));
        }
    }

    static void sourceUnchanged(String what, Supplier<BlockPictures> made, Consumer<BlockPictures> call) {
        Twins twins = new Twins(what, made, call);
        int count = twins.called.write(5, 9, 0);
        twins.due("write(5, 9, 0)", count, twins.other.write(5, 9, 0));
        for (int k = 0; k < count; k++) {
            twins.due("written(" + k + ")", twins.called.written(k), twins.other.written(k));
        }
    }

    private void due(String asked, int got, int want) {
        Check.due(what + ", then " + asked, got, want);
    }

    private void look() {
        due("fault()", called.fault(), other.fault());
        due("units()", called.units(), other.units());
        due("shown()", called.shown(), other.shown());
        due("held()", called.held(), other.held());
        due("smoothed()", called.smoothed(), other.smoothed());
        for (int k = 0; k < 8; k++) {
            due("order(" + k + ")", called.order(k), other.order(k));
        }
        for (int n = 0; n < 16; n++) {
            due("vector(" + n + ")", called.vector(n), other.vector(n));
            due("sample(" + 17 * n + ")", called.sample(17 * n), other.sample(17 * n));
        }
        for (int k = 0; k < 4; k++) {
            due("heldState(" + k + ")", called.heldState(k), other.heldState(k));
            for (int i = 0; i < 256; i += 51) {
                due("heldSample(" + k + ", " + i + ")", called.heldSample(k, i), other.heldSample(k, i));
            }
        }
    }

    private void feed(int... bytes) {
        for (int value : bytes) {
            due("feed(" + value + ", 1)", called.feed(value, 1), other.feed(value, 1));
            due("fault()", called.fault(), other.fault());
            due("units()", called.units(), other.units());
        }
    }

    private void send(int head, UnitBits bits) {
        due("bytes", bits.send(called, head), bits.send(other, head));
    }

    /** Whether they are in a unit and how many zeros were counted. */
    private void goOnWithBytes() {
        look();
        feed(1, 8, 0, 0, 1, 9, 0, 0, 0);
        look();
    }

    /** The bytes of a unit that has not ended, the taken parameters, the references, and what waits. */
    private void goOnWithANextPicture() {
        feed(0, 0, 0);
        look();
        for (int order = 21; order < 25; order++) {
            send(0x21, States.next(order));
        }
        look();
    }

    /** The pending parameters. */
    private void goOnWithAKeyPicture() {
        send(5, UnitBits.key(8, 0).means(15).raw("01").residual(3, 11));
        look();
        for (int order = 21; order < 25; order++) {
            send(0x21, States.next(order));
        }
        look();
    }

    private void goOnToTheEnd() {
        due("end()", called.end(), other.end());
        look();
        send(5, UnitBits.key(8, 0).means(16));
        look();
    }
}
