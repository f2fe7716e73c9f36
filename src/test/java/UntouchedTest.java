import java.util.LinkedHashMap;
import java.util.Map;
import java.util.function.Consumer;
import java.util.function.Supplier;

/** Every call in many states: it changes what its promise says and nothing beside it. */
public final class UntouchedTest {
    private static final int[] ANY = {Integer.MIN_VALUE, -1, 0, 1, 2, 3, 4, 5, 7, 8, 15, 16, 255, 256, Integer.MAX_VALUE};

    public static void main(String[] args) {
        lookingChangesNothing();
        drawChangesOneSample();
        writeChangesTheWrittenBytes();
        decoderLeavesTheWriter();
        stoppedDecoderStays();
        nothingToPass();
        faultDropsTheUnit();
        unitOnItsWay();
        Check.finish();
    }

    private static void inAllStates(String what, Consumer<BlockPictures> call) {
        States.all().forEach((name, state) -> Twins.unchanged(name + ", " + what, state, call));
    }

    private static void lookingChangesNothing() {
        Check.sentence("fault, units, shown, order, sample, held, heldState, heldSample, vector, smoothed, written");
        inAllStates("fault()", BlockPictures::fault);
        inAllStates("units()", BlockPictures::units);
        inAllStates("shown()", BlockPictures::shown);
        inAllStates("held()", BlockPictures::held);
        inAllStates("smoothed()", BlockPictures::smoothed);
        for (int k : ANY) {
            inAllStates("order(" + k + ")", x -> x.order(k));
            inAllStates("sample(" + k + ")", x -> x.sample(k));
            inAllStates("heldState(" + k + ")", x -> x.heldState(k));
            inAllStates("heldSample(" + k + ", 0)", x -> x.heldSample(k, 0));
            inAllStates("heldSample(0, " + k + ")", x -> x.heldSample(0, k));
            inAllStates("vector(" + k + ")", x -> x.vector(k));
            inAllStates("written(" + k + ")", x -> x.written(k));
        }
    }

    private static void drawChangesOneSample() {
        Check.sentence("Sample i of the source becomes v");
        for (Map.Entry<String, Supplier<BlockPictures>> state : States.all().entrySet()) {
            for (int i : new int[] {0, 100, 255}) {
                String what = state.getKey() + ", draw(" + i + ", 9)";
                Twins.decoderUnchanged(what, state.getValue(), x -> x.draw(i, 9));
                Twins.writtenUnchanged(what, state.getValue(), x -> x.draw(i, 9));
            }
            // 200 is drawn in none of the states.
            Twins.sourceUnchanged(state.getKey() + ", drawn and drawn back", state.getValue(), x -> {
                x.draw(200, 9);
                x.draw(200, 0);
            });
        }
    }

    private static void writeChangesTheWrittenBytes() {
        Check.sentence("Writes a unit in place of the bytes written before");
        int[][] rows = {{7, 0, 0}, {7, 3, 11}, {5, 0, 0}, {5, 255, -1}};
        for (Map.Entry<String, Supplier<BlockPictures>> state : States.all().entrySet()) {
            for (int[] row : rows) {
                String what = state.getKey() + ", write(" + row[0] + ", " + row[1] + ", " + row[2] + ")";
                Twins.decoderUnchanged(what, state.getValue(), x -> x.write(row[0], row[1], row[2]));
                Twins.sourceUnchanged(what, state.getValue(), x -> x.write(row[0], row[1], row[2]));
            }
        }
    }

    private static void decoderLeavesTheWriter() {
        Check.sentence("feed, end, reset, pass: the source and the written bytes stay");
        Map<String, Consumer<BlockPictures>> calls = new LinkedHashMap<>();
        calls.put("feed(0, 4)", x -> x.feed(0, 4));
        calls.put("feed(0x00000188, 4)", x -> x.feed(0x00000188, 4));
        calls.put("end()", BlockPictures::end);
        calls.put("reset()", BlockPictures::reset);
        calls.put("pass()", BlockPictures::pass);
        States.all().forEach((name, state) -> calls.forEach((call, taken) -> {
            Twins.writtenUnchanged(name + ", " + call, state, taken);
            Twins.sourceUnchanged(name + ", " + call, state, taken);
        }));
    }

    private static void stoppedDecoderStays() {
        Check.sentence("it takes no more bytes until reset()");
        States.all().forEach((name, state) -> {
            if (state.get().fault() != 0) {
                Twins.unchanged(name + ", feed(0, 4)", state, x -> x.feed(0, 4));
                Twins.unchanged(name + ", feed(0x01070000, 4)", state, x -> x.feed(0x01070000, 4));
                Twins.unchanged(name + ", pass()", state, BlockPictures::pass);
                Twins.unchanged(name + ", end()", state, BlockPictures::end);
            }
        });
    }

    private static void nothingToPass() {
        Check.sentence("pass: 0 when nothing was written");
        States.all().forEach((name, state) -> {
            if (state.get().written(0) == BlockPictures.NONE) {
                Check.due(name + ", pass()", state.get().pass(), 0);
                Twins.unchanged(name + ", pass()", state, BlockPictures::pass);
            }
        });
    }

    private static void faultDropsTheUnit() {
        Check.sentence("A FAULT drops the unit (nothing that it would have done is done)");
        // Parameters do nothing that could be looked at, so a picture with data left behind it must not either.
        UnitBits parameters = UnitBits.parameters(1, 0).raw("0");
        UnitBits key = UnitBits.key(1, 0).plain(50).plain(53).means(14).raw("0");
        UnitBits next = new UnitBits().number(26).signed(0).number(0).raw("0 1").number(0).inter(9, 9).residual(0, 30)
            .copied(15).raw("0");
        int[] compared = new int[2];
        States.all().forEach((name, state) -> {
            if (faultAfter(state, key, 5) == 6) {
                Twins.alike(name + ", a key picture", state, x -> key.send(x, 5), x -> parameters.send(x, 7));
                compared[0]++;
            }
            if (faultAfter(state, next, 0x21) == 6) {
                Twins.alike(name + ", a next picture", state, x -> next.send(x, 0x21), x -> parameters.send(x, 7));
                compared[1]++;
            }
        });
        Check.due("states with parameters", compared[0] > 6, true);
        Check.due("states with references", compared[1] > 4, true);
    }

    private static void unitOnItsWay() {
        Check.sentence("every other one is worked through when it ends");
        // The first three bytes end the unit before; then one has begun, or none.
        States.all().forEach((name, state) -> Twins.alike(name + ", a unit that has not ended", state,
            x -> UnitBits.feed(x, 0, 0, 1, 128, 0, 0), x -> UnitBits.feed(x, 0, 0, 0)));
    }

    private static int faultAfter(Supplier<BlockPictures> state, UnitBits bits, int head) {
        BlockPictures x = state.get();
        bits.send(x, head);
        return x.fault();
    }
}
