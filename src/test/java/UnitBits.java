import java.util.function.IntBinaryOperator;

/** The data of a unit, written bit by bit, and the ways to hand units to a decoder. */
final class UnitBits {
    private final StringBuilder data = new StringBuilder();

    /** Bits as a text of 0 and 1; spaces are passed over. */
    UnitBits raw(String text) {
        data.append(text.replace(" ", ""));
        return this;
    }

    UnitBits bits(int value, int count) {
        for (int k = count - 1; k >= 0; k--) {
            data.append((value >> k) & 1);
        }
        return this;
    }

    UnitBits number(int value) {
        String digits = Integer.toBinaryString(value + 1);
        data.append("0".repeat(digits.length() - 1)).append(digits);
        return this;
    }

    UnitBits signed(int value) {
        return number(value > 0 ? 2 * value - 1 : -2 * value);
    }

    /** A block of mode 0, all its samples the same. */
    UnitBits plain(int value) {
        bits(0, 2);
        for (int k = 0; k < 16; k++) {
            bits(value, 8);
        }
        return this;
    }

    /** A block of mode 0 whose samples are those of block n of the picture. */
    UnitBits block(int n, IntBinaryOperator picture) {
        bits(0, 2);
        for (int k = 0; k < 16; k++) {
            bits(picture.applyAsInt(4 * (n % 4) + k % 4, 4 * (n / 4) + k / 4), 8);
        }
        return this;
    }

    /** All blocks of mode 0, for a key picture; the picture tells sample (x, y). */
    UnitBits blocks(IntBinaryOperator picture) {
        for (int n = 0; n < 16; n++) {
            block(n, picture);
        }
        return this;
    }

    /** Blocks of a key picture of mode 1 without a residual. */
    UnitBits means(int count) {
        for (int k = 0; k < count; k++) {
            raw("01 0");
        }
        return this;
    }

    UnitBits copied(int count) {
        return raw("0".repeat(count));
    }

    /** An INTER block of a next picture that uses one reference; the residual is up to the caller. */
    UnitBits inter(int dx, int dy) {
        return raw("10").signed(dx).signed(dy);
    }

    /** An INTRA block of a next picture with plain samples. */
    UnitBits plainInNext(int value) {
        return raw("11").plain(value);
    }

    /** A residual of one coefficient. */
    UnitBits residual(int place, int level) {
        return raw("1").number(0).number(place).signed(level);
    }

    int length() {
        return data.length();
    }

    /** The bits so far, to go on from in several ways. */
    String text() {
        return data.toString();
    }

    /** The unit's bytes: byte 0, the data, a 1, zeros to the end of the byte. */
    int[] unit(int head) {
        return packed(head, data + "1");
    }

    /** The unit's bytes without the 1 behind the data. */
    int[] unmarked(int head) {
        return packed(head, data.toString());
    }

    private static int[] packed(int head, String bits) {
        int[] bytes = new int[1 + (bits.length() + 7) / 8];
        bytes[0] = head;
        for (int k = 0; k < bits.length(); k++) {
            bytes[1 + k / 8] |= (bits.charAt(k) - '0') << (7 - k % 8);
        }
        return bytes;
    }

    /** The unit with its start code and the bytes 3 that it needs. */
    static int[] framed(int[] unit) {
        int[] bytes = new int[3 + 2 * unit.length];
        bytes[2] = 1;
        int count = 3;
        int zeros = 0;
        for (int value : unit) {
            if (zeros == 2 && value <= 3) {
                bytes[count++] = 3;
                zeros = 0;
            }
            bytes[count++] = value;
            zeros = value == 0 ? zeros + 1 : 0;
        }
        return java.util.Arrays.copyOf(bytes, count);
    }

    /** Feeds the bytes, four in a call as long as there are so many; answers the sum of the answers. */
    static int feed(BlockPictures x, int... bytes) {
        int ended = 0;
        for (int at = 0; at < bytes.length; at += 4) {
            int count = Math.min(4, bytes.length - at);
            int word = 0;
            for (int k = 0; k < count; k++) {
                word = word << 8 | bytes[at + k];
            }
            ended += x.feed(word, count);
        }
        return ended;
    }

    /** Feeds the unit and ends it by three zeros. */
    static int sendBytes(BlockPictures x, int[] unit) {
        return feed(x, framed(unit)) + feed(x, 0, 0, 0);
    }

    int send(BlockPictures x, int head) {
        return sendBytes(x, unit(head));
    }

    static UnitBits parameters(int places, int base) {
        return new UnitBits().number(places - 1).number(base);
    }

    /** The head of a key picture's data: the order and d. */
    static UnitBits key(int order, int d) {
        return new UnitBits().number(order).signed(d);
    }

    /** The head of a next picture's data of rank 0 that uses a + 1 references in their own order. */
    static UnitBits next(int order, int a) {
        return new UnitBits().number(order).signed(0).number(a).raw("0");
    }

    /** A decoder that has taken parameters. */
    static BlockPictures decoder(int places, int base) {
        BlockPictures x = new BlockPictures();
        parameters(places, base).send(x, 7);
        return x;
    }
}
