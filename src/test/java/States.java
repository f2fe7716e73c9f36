import java.util.LinkedHashMap;
import java.util.Map;
import java.util.function.Supplier;

/** Objects in many states, so that between them every part of an object has something that could be lost. */
final class States {
    private States() {
    }

    static Map<String, Supplier<BlockPictures>> all() {
        Map<String, Supplier<BlockPictures>> all = new LinkedHashMap<>();
        all.put("a new object", BlockPictures::new);
        all.put("one zero", () -> fed(0));
        all.put("two zeros", () -> fed(0, 0));
        all.put("a unit with no bytes", () -> fed(0, 0, 1));
        all.put("a unit behind a zero", () -> fed(0, 0, 1, 8, 0));
        all.put("pending parameters", States::pending);
        all.put("parameters not ended", () -> notEnded(new BlockPictures(), UnitBits.parameters(3, 4).unit(7)));
        all.put("a key picture not ended", () -> notEnded(pending(), UnitBits.key(7, 0).means(15).raw("01")
            .residual(0, 9).unit(5)));
        all.put("pictures held", States::holding);
        all.put("a next picture not ended", () -> notEnded(holding(), next(12).unit(0x21)));
        all.put("busy", States::busy);
        all.put("ended", States::ended);
        all.put("nine shown", States::nineShown);
        all.put("a drawn source", States::drawn);
        all.put("a written source", States::written);
        all.put("stopped by FAULT 2", States::stopped);
        all.put("stopped by FAULT 6", States::stoppedByAPicture);
        return all;
    }

    /** A next picture with a vector and a residual, of rank above 0; nothing is released. */
    static UnitBits next(int order) {
        return new UnitBits().number(order).signed(0).number(0).raw("0 0").inter(3, -5).raw("0").copied(13)
            .inter(-4, 0).residual(2, 7).raw("11 01 0");
    }

    private static BlockPictures fed(int... bytes) {
        BlockPictures x = new BlockPictures();
        UnitBits.feed(x, bytes);
        return x;
    }

    private static BlockPictures notEnded(BlockPictures x, int[] unit) {
        UnitBits.feed(x, UnitBits.framed(unit));
        return x;
    }

    private static BlockPictures pending() {
        BlockPictures x = UnitBits.decoder(4, 6);
        x.write(7, 3, 11);
        return x;
    }

    /** Three places: a reference that waits no more, a reference, and one that waits; nothing is pending. */
    private static BlockPictures holding() {
        BlockPictures x = UnitBits.decoder(3, 1);
        UnitBits.key(10, 0).blocks((c, r) -> 90 + 3 * (c / 4) + 2 * r).send(x, 5);
        next(30).send(x, 0x21);
        UnitBits.next(20, 0).inter(8, 2).raw("0").copied(15).send(x, 1);
        UnitBits.next(25, 0).inter(5, 2).raw("0").copied(14).inter(-4, -4).raw("0").send(x, 1);
        Check.due("fault()", x.fault(), 0);
        Check.due("held()", x.held(), 3);
        Check.due("shown()", x.shown(), 2);
        Check.due("lines were smoothed", x.smoothed() > 0, true);
        return x;
    }

    /** In a unit behind two zeros, with pictures held and shown, parameters pending, bytes written. */
    static BlockPictures busy() {
        BlockPictures x = UnitBits.decoder(2, 3);
        for (int i = 0; i < 16; i++) {
            x.draw(i, 200 + i);
        }
        Pictures.key(x, 30);
        UnitBits.next(20, 0).inter(3, -5).raw("0").copied(15).send(x, 1);
        UnitBits.next(10, 0).inter(4, 6).raw("0").copied(15).send(x, 1);
        UnitBits.parameters(3, 4).send(x, 7);
        x.write(7, 1, 2);
        UnitBits.feed(x, 0, 0, 1, 8, 0, 0);
        return x;
    }

    private static BlockPictures ended() {
        BlockPictures x = holding();
        Check.due("end()", x.end(), 2);
        return x;
    }

    private static BlockPictures nineShown() {
        BlockPictures x = UnitBits.decoder(1, 2);
        Pictures.key(x, 100);
        for (int k = 1; k <= 9; k++) {
            UnitBits.next(2 * k, 0).inter(k, -k).raw("0").copied(15).send(x, 1);
        }
        Check.due("shown()", x.shown(), 9);
        return x;
    }

    /** Nothing is written yet. */
    private static BlockPictures drawn() {
        BlockPictures x = UnitBits.decoder(2, 0);
        for (int i = 0; i < 256; i += i < 8 ? 1 : 31) {
            x.draw(i, 255 - i);
        }
        return x;
    }

    private static BlockPictures written() {
        BlockPictures x = drawn();
        x.write(5, 17, 0);
        x.pass();
        x.write(5, 18, 0);
        return x;
    }

    /** As busy, stopped by FAULT 2. */
    static BlockPictures stopped() {
        BlockPictures x = busy();
        x.feed(2, 1);
        Check.due("fault()", x.fault(), 2);
        return x;
    }

    private static BlockPictures stoppedByAPicture() {
        BlockPictures x = holding();
        x.draw(0, 77);
        x.write(5, 1, 0);
        next(14).raw("0").send(x, 0x21);
        Check.due("fault()", x.fault(), 6);
        return x;
    }
}
