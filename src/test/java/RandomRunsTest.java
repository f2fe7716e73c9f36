import java.util.Random;

/**
 * Compares the class with the model over streams that are mostly right, with a fixed seed. Any other call may come
 * between two bytes of a stream, so that one that changes what it should not is seen by what comes later.
 */
public final class RandomRunsTest {
    private static final int RUNS = 9000;
    /** An object answers so many calls as it should; what is left of them after the stream is for looking. */
    private static final int MOST_CALLS = 512;
    private static final int CALLS_FOR_THE_STREAM = 330;
    private static final int[] WRONG = {-1, -2, -256, 256, 257, 1000, 65536, Integer.MIN_VALUE, Integer.MAX_VALUE};
    private static final int[] FAULTS = new int[10];
    private static int pictures = 0;
    private static int lines = 0;

    private final Random random;
    private final BlockPictures x = new BlockPictures();
    private final Model model = new Model();
    private final String name;
    private int calls = 0;

    private RandomRunsTest(int run) {
        random = new Random(77000 + run);
        name = "run " + run;
    }

    public static void main(String[] args) {
        for (int run = 0; run < RUNS && Check.allRight(); run++) {
            new RandomRunsTest(run).play();
        }
        Check.due("pictures were held", pictures > 3000, true);
        Check.due("lines were smoothed", lines > 10000, true);
        for (int fault = 1; fault <= 9; fault++) {
            System.out.println("fault " + fault + ": " + FAULTS[fault] + " times");
            Check.due("fault " + fault + " came", FAULTS[fault] > 0, true);
        }
        Check.finish();
    }

    private void play() {
        boolean bare = true;
        while (calls < CALLS_FOR_THE_STREAM) {
            bare = step(bare);
            others(2);
            due("fault()", x.fault(), model.fault());
            if (model.fault() != 0) {
                FAULTS[model.fault()]++;
                if (random.nextInt(3) == 0) {
                    break;
                }
                stopped();
                reset();
                bare = true;
            }
        }
        if (random.nextInt(3) == 0) {
            due("end()", x.end(), model.end());
        }
        pictures += model.held();
        lines += model.smoothed();
        while (calls < MOST_CALLS) {
            look(random.nextInt(22));
        }
        Check.due(name + ", all calls", calls, MOST_CALLS);
    }

    /** Calls that change nothing of the decoder as long as it is stopped. */
    private void stopped() {
        others(2);
        if (random.nextInt(3) == 0) {
            pass();
        }
        feed(0x00000107, 1 + random.nextInt(4));
        due("end()", x.end(), model.end());
        others(1);
    }

    private void due(String what, int got, int want) {
        calls++;
        Check.due(name + ", call " + calls + ", " + what, got, want);
    }

    private void reset() {
        calls++;
        x.reset();
        model.reset();
    }

    /** Sends a unit or calls something else; bare: no parameters have come. Answers whether it is bare then. */
    private boolean step(boolean bare) {
        int choice = random.nextInt(44);
        if (bare && choice > 1 || choice == 2) {
            parameters();
            return false;
        }
        if (choice == 3) {
            due("end()", x.end(), model.end());
            return true;
        }
        if (choice == 4) {
            reset();
            return true;
        }
        if (choice == 5) {
            unit(random.nextInt(160), new UnitBits().bits(random.nextInt(), 30));
        } else if (choice == 6) {
            noise(random.nextInt(12));
        } else if (choice == 7) {
            longUnit(315 + random.nextInt(7));
        } else if (choice < 12) {
            writtenKey();
        } else if (choice == 12) {
            // Whatever was written latest.
            pass();
        } else {
            picture(model.references() == 0 || random.nextInt(10) == 0);
        }
        return bare;
    }

    private void parameters() {
        if (random.nextInt(3) == 0) {
            write(7, random.nextInt(4), random.nextInt(12));
            others(1);
            pass();
        } else {
            unit(random.nextInt(4) << 5 | 7, UnitBits.parameters(1 + random.nextInt(4), random.nextInt(12)));
        }
    }

    private void writtenKey() {
        int middle = random.nextInt(3) == 0 ? 0 : random.nextInt(256);
        for (int k = random.nextInt(12); k > 0; k--) {
            draw(random.nextInt(256), Math.min(255, middle + random.nextInt(4)));
        }
        write(5, random.nextInt(24), random.nextInt());
        others(2);
        pass();
    }

    private void draw(int i, int v) {
        due("draw(" + i + ", " + v + ")", x.draw(i, v) ? 1 : 0, model.draw(i, v) ? 1 : 0);
    }

    private void write(int kind, int a, int b) {
        due("write(" + kind + ", " + a + ", " + b + ")", x.write(kind, a, b), model.write(kind, a, b));
    }

    private void pass() {
        due("pass()", x.pass(), model.pass());
    }

    /** Calls that leave the decoder as it is; so many at the most. */
    private void others(int most) {
        for (int k = random.nextInt(most + 1); k > 0; k--) {
            int choice = random.nextInt(32);
            if (choice < 22) {
                look(choice);
            } else if (choice < 28) {
                refused(WRONG[random.nextInt(WRONG.length)]);
            } else if (choice < 30) {
                draw(random.nextInt(256), random.nextInt(256));
            } else {
                write(5 + 2 * random.nextInt(2), random.nextInt(4), random.nextInt(12));
            }
        }
    }

    private void refused(int wrong) {
        switch (random.nextInt(6)) {
            case 0 -> draw(wrong, random.nextInt(256));
            case 1 -> draw(random.nextInt(256), wrong);
            case 2 -> write(5, wrong, 0);
            case 3 -> write(7, random.nextInt(4), wrong);
            case 4 -> write(wrong, 1, 1);
            default -> feed(random.nextInt(), wrong);
        }
    }

    private void noise(int count) {
        for (int k = 0; k < count; k++) {
            feed(random.nextInt(3) == 0 ? random.nextInt(256) : random.nextInt(4), 1);
        }
    }

    private void longUnit(int length) {
        UnitBits bits = new UnitBits();
        for (int k = 1; k < length; k++) {
            bits.bits(1 + random.nextInt(255), 8);
        }
        unit(8, bits);
    }

    private void feed(int word, int count) {
        due("feed(" + word + ", " + count + ")", x.feed(word, count), model.feed(word, count));
    }

    private void unit(int head, UnitBits bits) {
        int[] bytes = bits.unit(head);
        if (random.nextInt(25) == 0) {
            bytes[random.nextInt(bytes.length)] ^= 1 << random.nextInt(8);
        }
        if (random.nextInt(40) == 0) {
            bytes = java.util.Arrays.copyOf(bytes, 1 + random.nextInt(bytes.length));
        }
        int[] framed = UnitBits.framed(bytes);
        if (random.nextInt(60) == 0) {
            framed[random.nextInt(framed.length)] = random.nextInt(4);
        }
        for (int at = 0; at < framed.length;) {
            int count = Math.min(random.nextInt(3) == 0 ? 1 + random.nextInt(4) : 4, framed.length - at);
            int word = random.nextInt(1 << 8);
            for (int k = 0; k < count; k++) {
                word = word << 8 | framed[at++];
            }
            feed(word, count);
            if (random.nextInt(12) == 0) {
                others(1);
            }
        }
        if (random.nextInt(3) > 0) {
            feed(random.nextInt(2), 3);
        }
    }

    private void picture(boolean key) {
        int rank = random.nextInt(3);
        int references = Math.max(1, model.references());
        UnitBits bits = new UnitBits().number(random.nextInt(random.nextInt(60) == 0 ? 300 : 24));
        bits.signed(random.nextInt(6) == 0 ? random.nextInt(5) - 2 : 0);
        int a = 0;
        if (!key) {
            a = random.nextInt(references + (random.nextInt(60) == 0 ? 1 : 0));
            bits.number(a);
            index(bits, references);
            if (rank > 0) {
                index(bits, references);
            }
        }
        int middle = 20 + random.nextInt(220);
        int calm = random.nextInt(4);
        for (int n = 0; n < 16; n++) {
            block(bits, n, key, a, middle, calm);
        }
        if (random.nextInt(80) == 0) {
            bits.raw("0110");
        }
        unit(rank << 5 | (key ? 5 : 1), bits);
    }

    private void index(UnitBits bits, int count) {
        if (random.nextInt(3) > 0) {
            bits.raw("0");
        } else {
            bits.raw("1").number(random.nextInt(count + (random.nextInt(60) == 0 ? 1 : 0)));
        }
    }

    private void block(UnitBits bits, int n, boolean key, int a, int middle, int calm) {
        int kind = key ? 2 : random.nextInt(8);
        if (!key && kind > 2 && calm > 1) {
            bits.raw("0");
        } else if (kind == 2) {
            bits.raw(key ? "" : "11");
            intra(bits, n, middle, calm);
        } else {
            bits.raw("10");
            if (a > 0) {
                bits.number(random.nextInt(a + 1 + (random.nextInt(300) == 0 ? 1 : 0)));
            }
            int reach = random.nextInt(6) == 0 ? 30 : 5;
            bits.signed(random.nextInt(2 * reach) - reach).signed(random.nextInt(2 * reach) - reach);
            residual(bits, calm);
        }
    }

    private void intra(UnitBits bits, int n, int middle, int calm) {
        int mode = random.nextInt(4);
        boolean possible = (mode != 2 || n >= 4) && (mode != 3 || n % 4 > 0);
        if (!possible && random.nextInt(60) > 0) {
            mode = 1;
        }
        bits.bits(mode, 2);
        for (int k = 0; k < 16 && mode == 0; k++) {
            int value = calm == 0 ? random.nextInt(256) : middle + random.nextInt(3 * calm) - calm;
            bits.bits(Math.max(0, Math.min(255, value)), 8);
        }
        if (mode != 0) {
            residual(bits, calm);
        }
    }

    private void residual(UnitBits bits, int calm) {
        if (random.nextInt(2 + calm) > 0) {
            bits.raw("0");
            return;
        }
        int count = 1 + random.nextInt(random.nextInt(5) == 0 ? 16 : 3);
        bits.raw("1").number(count - 1);
        int spare = 16 - count + (random.nextInt(150) == 0 ? 2 : 0);
        for (int k = 0; k < count; k++) {
            int run = random.nextInt(3) == 0 ? random.nextInt(spare + 1) : 0;
            spare -= run;
            int level = 1 + random.nextInt(random.nextInt(4) == 0 ? 40 : 4);
            level = random.nextInt(200) == 0 ? 1023 : level;
            level = random.nextInt(600) == 0 ? 0 : level;
            bits.number(run).signed(random.nextBoolean() ? level : -level);
        }
    }

    private void look(int choice) {
        int k = random.nextInt(10) - 1;
        int i = random.nextInt(258) - 1;
        int n = random.nextInt(18) - 1;
        int written = random.nextInt(random.nextInt(2) == 0 ? 12 : 320) - 1;
        switch (choice) {
            case 0 -> due("fault()", x.fault(), model.fault());
            case 1 -> due("units()", x.units(), model.units());
            case 2 -> due("shown()", x.shown(), model.shown());
            case 3 -> due("held()", x.held(), model.held());
            case 4 -> due("smoothed()", x.smoothed(), model.smoothed());
            case 5 -> due("order(" + k + ")", x.order(k), model.order(k));
            case 6, 7 -> due("heldState(" + k % 5 + ")", x.heldState(k % 5), model.heldState(k % 5));
            case 8, 9 -> due("vector(" + n + ")", x.vector(n), model.vector(n));
            case 10, 11 -> due("written(" + written + ")", x.written(written), model.written(written));
            case 12, 13, 14 -> due("sample(" + i + ")", x.sample(i), model.sample(i));
            default -> due("heldSample(" + k % 5 + ", " + i + ")", x.heldSample(k % 5, i), model.heldSample(k % 5, i));
        }
    }
}
