import java.util.Arrays;

/** Decodes a stream of bytes into small moving pictures, and writes units with plain samples itself. */
public final class BlockPictures {
    public static final int NONE = -1;

    private static final int SIDE = 16;
    private static final int SAMPLES = 256;
    private static final int BLOCKS = 16;
    private static final int MOST_PLACES = 4;
    private static final int HIGHEST_BASE = 11;
    private static final int HIGHEST_ORDER = 255;

    private static final int NEXT_PICTURE = 1;
    private static final int KEY_PICTURE = 5;
    private static final int PARAMETERS = 7;

    private static final int FAULT_HEAD = 1;
    private static final int FAULT_MARK = 2;
    private static final int FAULT_LENGTH = 3;
    private static final int FAULT_DATA_END = 4;
    private static final int FAULT_RANGE = 5;
    private static final int FAULT_DATA_LEFT = 6;
    private static final int FAULT_NO_PARAMETERS = 7;
    private static final int FAULT_REFERENCE = 8;
    private static final int FAULT_NO_NEIGHBOUR = 9;

    private final UnitIntake intake;
    private final Parameters parameters;
    private final PictureDecoder decoder;
    private final PictureBuffer buffer;
    private final UnitWriter writer;
    private int stopFault;
    private int unitCount;

    public BlockPictures() {
        intake = new UnitIntake();
        parameters = new Parameters();
        decoder = new PictureDecoder();
        buffer = new PictureBuffer();
        writer = new UnitWriter();
    }

    public int feed(int word, int count) {
        if (count < 1 || count > 4) {
            return 0;
        }
        int ended = 0;
        for (int k = count - 1; k >= 0; k--) {
            if (unitEndsAt((word >> (8 * k)) & 255)) {
                workThrough();
                ended++;
            }
        }
        return ended;
    }

    public int end() {
        if (stopFault != 0) {
            return 0;
        }
        int before = buffer.shownCount;
        if (intake.close()) {
            workThrough();
        }
        if (stopFault == 0) {
            buffer.showAll();
            parameters.clear();
            intake.clear();
        }
        return buffer.shownCount - before;
    }

    public void reset() {
        intake.clear();
        parameters.clear();
        decoder.forgetLatest();
        buffer.clear();
        stopFault = 0;
        unitCount = 0;
    }

    public int fault() {
        return stopFault;
    }

    public int units() {
        return unitCount;
    }

    public int shown() {
        return buffer.shownCount;
    }

    public int order(int k) {
        return buffer.shownOrder(k);
    }

    public int sample(int i) {
        if (buffer.shownCount == 0 || i < 0 || i >= SAMPLES) {
            return NONE;
        }
        return buffer.shownSamples[i];
    }

    public int held() {
        return buffer.count;
    }

    public int heldState(int k) {
        if (k < 0 || k >= buffer.count) {
            return NONE;
        }
        Picture picture = buffer.slots[k];
        return picture.orderNumber * 4 + (picture.reference ? 1 : 0) + (picture.waiting ? 2 : 0);
    }

    public int heldSample(int k, int i) {
        if (k < 0 || k >= buffer.count || i < 0 || i >= SAMPLES) {
            return NONE;
        }
        return buffer.slots[k].samples[i];
    }

    public int vector(int n) {
        if (n < 0 || n >= BLOCKS || !decoder.latest.inter[n]) {
            return NONE;
        }
        return 256 * (decoder.latest.vx[n] + 64) + decoder.latest.vy[n] + 64;
    }

    public int smoothed() {
        return decoder.latest.smoothedLines;
    }

    public boolean draw(int i, int v) {
        if (i < 0 || i >= SAMPLES || v < 0 || v > 255) {
            return false;
        }
        writer.source[i] = v;
        return true;
    }

    public int write(int kind, int a, int b) {
        if (kind == PARAMETERS && a >= 0 && a < MOST_PLACES && b >= 0 && b <= HIGHEST_BASE) {
            writer.putParameters(a, b);
            return writer.count;
        }
        if (kind == KEY_PICTURE && a >= 0 && a <= HIGHEST_ORDER) {
            writer.putKeyPicture(a);
            return writer.count;
        }
        return NONE;
    }

    public int written(int k) {
        return k < 0 || k >= writer.count ? NONE : writer.bytes[k];
    }

    public int pass() {
        int ended = 0;
        for (int k = 0; k < writer.count; k++) {
            if (unitEndsAt(writer.bytes[k])) {
                workThrough();
                ended++;
            }
        }
        return ended;
    }

    /** Takes a byte unless stopped; tells whether a unit that has bytes ended with it. */
    private boolean unitEndsAt(int value) {
        if (stopFault != 0) {
            return false;
        }
        boolean ended = intake.take(value);
        stopFault = intake.brokenBy;
        return ended;
    }

    private void workThrough() {
        int head = intake.bytes[0];
        int type = head & 31;
        BitReader bits = decoder.bits;
        bits.open(intake.bytes, intake.endedLength);
        if (head > 127) {
            bits.fail(FAULT_HEAD);
        } else if (type == PARAMETERS) {
            bits.needMark();
            parameters.readPending(bits);
        } else if (type == KEY_PICTURE || type == NEXT_PICTURE) {
            bits.needMark();
            takePicture(type == KEY_PICTURE, (head >> 5) & 3);
        }
        stopFault = bits.failure;
        if (stopFault == 0) {
            unitCount++;
        }
    }

    private void takePicture(boolean key, int rank) {
        BitReader bits = decoder.bits;
        decoder.referenceCount = buffer.listReferences(decoder.references);
        if (key && !parameters.pending && !parameters.taken) {
            bits.fail(FAULT_NO_PARAMETERS);
        } else if (!key && decoder.referenceCount == 0) {
            bits.fail(FAULT_REFERENCE);
        }
        if (bits.failure == 0) {
            decoder.readHeader(key, rank, parameters.baseFor(key));
            decoder.readBlocks(key);
            bits.needEnd();
        }
        if (bits.failure != 0) {
            return;
        }
        decoder.finish();
        if (key) {
            parameters.takePending();
            buffer.showAll();
            buffer.places = parameters.places;
        } else {
            buffer.release(decoder.released);
        }
        buffer.admit(decoder.picture);
    }

    private static int limit(int v) {
        return v < 0 ? 0 : v > 255 ? 255 : v;
    }

    /** The number in a picture of sample k of block n, k counting row by row. */
    private static int sampleNumber(int n, int k) {
        return SIDE * (4 * (n / 4) + k / 4) + 4 * (n % 4) + k % 4;
    }

    /** Finds the units in the bytes and gathers their bytes. */
    private static final class UnitIntake {
        static final int MOST_BYTES = 320;

        final int[] bytes = new int[MOST_BYTES];
        int length;
        int endedLength;
        int zeros;
        int brokenBy;
        boolean inside;

        void clear() {
            length = 0;
            endedLength = 0;
            zeros = 0;
            brokenBy = 0;
            inside = false;
        }

        /** Tells whether a unit that has bytes ended; its bytes stay until the next byte is taken. */
        boolean take(int value) {
            if (!inside) {
                takeOutside(value);
                return false;
            }
            if (zeros == 2 && value <= 3) {
                return takeMark(value);
            }
            append(value);
            return false;
        }

        /** Ends the unit with all its bytes; tells whether there was one that has bytes. */
        boolean close() {
            return inside && endUnit(0);
        }

        private void takeOutside(int value) {
            if (value == 0) {
                zeros++;
                return;
            }
            inside = value == 1 && zeros >= 2;
            zeros = 0;
        }

        private boolean takeMark(int value) {
            zeros = value == 0 ? 3 : 0;
            if (value == 2) {
                brokenBy = FAULT_MARK;
            }
            if (value >= 2) {
                return false;
            }
            inside = value == 1;
            return endUnit(2);
        }

        private boolean endUnit(int dropped) {
            endedLength = length - dropped;
            length = 0;
            return endedLength > 0;
        }

        private void append(int value) {
            if (length >= MOST_BYTES) {
                brokenBy = FAULT_LENGTH;
                return;
            }
            bytes[length] = value;
            length++;
            zeros = value == 0 ? zeros + 1 : 0;
        }
    }

    /**
     * Reads numbers from the bits of a unit. The first failure stays; from then on every read
     * answers 0, so that a reader may go on without looking after each number.
     */
    private static final class BitReader {
        static final int MOST_ZEROS = 10;
        /** Above every number that can be read. */
        static final int ANY = 1 << (MOST_ZEROS + 1);

        final int[] bytes = new int[UnitIntake.MOST_BYTES];
        int position;
        int dataEnd;
        int failure;

        void open(int[] unit, int length) {
            System.arraycopy(unit, 0, bytes, 0, length);
            failure = 0;
            position = 8;
            dataEnd = NONE;
            for (int at = 8 * length - 1; at >= 8 && dataEnd == NONE; at--) {
                if (((bytes[at >> 3] >> (7 - (at & 7))) & 1) == 1) {
                    dataEnd = at;
                }
            }
        }

        void fail(int fault) {
            if (failure == 0) {
                failure = fault;
            }
        }

        void needMark() {
            if (dataEnd == NONE) {
                fail(FAULT_DATA_END);
            }
        }

        void needEnd() {
            if (position < dataEnd) {
                fail(FAULT_DATA_LEFT);
            }
        }

        int bits(int count) {
            int value = 0;
            for (int k = 0; k < count; k++) {
                value = 2 * value + nextBit();
            }
            return failure == 0 ? value : 0;
        }

        boolean flag() {
            return nextBit() == 1;
        }

        /** A NUMBER 0 .. most; one above that is the fault told. */
        int number(int most, int fault) {
            int zeros = 0;
            while (zeros <= MOST_ZEROS && failure == 0 && nextBit() == 0) {
                zeros++;
            }
            if (zeros > MOST_ZEROS) {
                fail(FAULT_RANGE);
            }
            int tail = 0;
            for (int k = 0; k < zeros; k++) {
                tail = 2 * tail + nextBit();
            }
            int value = (1 << zeros) - 1 + tail;
            if (value > most) {
                fail(fault);
            }
            return failure == 0 ? value : 0;
        }

        static int signed(int number) {
            return number % 2 == 1 ? (number + 1) / 2 : -(number / 2);
        }

        private int nextBit() {
            if (failure != 0) {
                return 0;
            }
            if (position >= dataEnd) {
                failure = FAULT_DATA_END;
                return 0;
            }
            int bit = (bytes[position >> 3] >> (7 - (position & 7))) & 1;
            position++;
            return bit;
        }
    }

    /** The buffer's places and the base: those pending, and those that a key picture took. */
    private static final class Parameters {
        boolean pending;
        int pendingPlaces;
        int pendingBase;
        boolean taken;
        int places;
        int base;

        void clear() {
            pending = false;
            taken = false;
        }

        void readPending(BitReader bits) {
            int newPlaces = bits.number(MOST_PLACES - 1, FAULT_RANGE) + 1;
            int newBase = bits.number(HIGHEST_BASE, FAULT_RANGE);
            bits.needEnd();
            if (bits.failure == 0) {
                pending = true;
                pendingPlaces = newPlaces;
                pendingBase = newBase;
            }
        }

        int baseFor(boolean key) {
            return key && pending ? pendingBase : base;
        }

        void takePending() {
            if (pending) {
                places = pendingPlaces;
                base = pendingBase;
                taken = true;
                pending = false;
            }
        }
    }

    private static final class Picture {
        final int[] samples = new int[SAMPLES];
        int orderNumber;
        boolean reference;
        boolean waiting;

        void copy(Picture other) {
            System.arraycopy(other.samples, 0, samples, 0, SAMPLES);
            orderNumber = other.orderNumber;
            reference = other.reference;
            waiting = other.waiting;
        }
    }

    /** What is known of a picture's blocks beside their samples; one that is not INTER has the vector (0, 0). */
    private static final class BlockRows {
        final boolean[] inter = new boolean[BLOCKS];
        final boolean[] residual = new boolean[BLOCKS];
        final int[] reference = new int[BLOCKS];
        final int[] vx = new int[BLOCKS];
        final int[] vy = new int[BLOCKS];
        int smoothedLines;

        void clear() {
            for (int n = 0; n < BLOCKS; n++) {
                clearBlock(n);
            }
            smoothedLines = 0;
        }

        void clearBlock(int n) {
            inter[n] = false;
            residual[n] = false;
            reference[n] = 0;
            vx[n] = 0;
            vy[n] = 0;
        }

        /** The predicted vector's part for block n, from vx or from vy. */
        static int predicted(int[] row, int n) {
            int left = n % 4 == 0 ? 0 : row[n - 1];
            if (n < 4) {
                return left;
            }
            int above = row[n - 4];
            int corner = n % 4 == 3 ? row[n - 5] : row[n - 3];
            return Math.max(Math.min(left, above), Math.min(Math.max(left, above), corner));
        }

        int strength(int p, int q) {
            if (!inter[p] || !inter[q]) {
                return 2;
            }
            boolean apart = residual[p] || residual[q] || reference[p] != reference[q]
                    || Math.abs(vx[p] - vx[q]) >= 2 || Math.abs(vy[p] - vy[q]) >= 2;
            return apart ? 1 : 0;
        }
    }

    /** Fetches the samples of INTER blocks from a reference. */
    private static final class Motion {
        /** A block's four samples, two before and three behind them for the six taps. */
        static final int WIDE = 9;

        final int[] window = new int[WIDE * WIDE];
        /** The taps along the rows of the window, for the four columns of the block. */
        final int[] across = new int[4 * WIDE];

        void predict(Picture from, Picture into, int n, int vx, int vy) {
            fillWindow(from.samples, 4 * (n % 4) + (vx >> 1) - 2, 4 * (n / 4) + (vy >> 1) - 2);
            boolean oddX = (vx & 1) == 1;
            boolean oddY = (vy & 1) == 1;
            if (oddX && oddY) {
                fillAcross();
            }
            for (int k = 0; k < 16; k++) {
                int x = k % 4;
                int y = k / 4;
                int at = WIDE * (y + 2) + x + 2;
                int value = window[at];
                if (oddX && oddY) {
                    value = limit((taps(across, 4 * (y + 2) + x, 4) + 512) >> 10);
                } else if (oddX) {
                    value = limit((taps(window, at, 1) + 16) >> 5);
                } else if (oddY) {
                    value = limit((taps(window, at, WIDE) + 16) >> 5);
                }
                into.samples[sampleNumber(n, k)] = value;
            }
        }

        private void fillWindow(int[] from, int left, int top) {
            for (int y = 0; y < WIDE; y++) {
                int j = Math.max(0, Math.min(SIDE - 1, top + y));
                for (int x = 0; x < WIDE; x++) {
                    int i = Math.max(0, Math.min(SIDE - 1, left + x));
                    window[WIDE * y + x] = from[SIDE * j + i];
                }
            }
        }

        private void fillAcross() {
            for (int y = 0; y < WIDE; y++) {
                for (int x = 0; x < 4; x++) {
                    across[4 * y + x] = taps(window, WIDE * y + x + 2, 1);
                }
            }
        }

        private static int taps(int[] row, int at, int step) {
            return row[at - 2 * step] - 5 * row[at - step] + 20 * row[at]
                    + 20 * row[at + step] - 5 * row[at + 2 * step] + row[at + 3 * step];
        }
    }

    /** Filters the edges of the blocks of a picture. */
    private static final class EdgeFilter {
        /** Answers how many lines were changed. */
        static int smooth(int[] samples, BlockRows rows, int q) {
            int lines = 0;
            for (int edge = 0; edge < 2 * BLOCKS; edge++) {
                int n = edge / 2;
                boolean left = edge % 2 == 0;
                boolean within = left ? n % 4 > 0 : n >= 4;
                int strength = within ? rows.strength(left ? n - 1 : n - 4, n) : 0;
                int across = left ? 1 : SIDE;
                int along = left ? SIDE : 1;
                for (int k = 0; k < 4 && strength > 0; k++) {
                    if (smoothLine(samples, sampleNumber(n, 0) + k * along, across, strength, q)) {
                        lines++;
                    }
                }
            }
            return lines;
        }

        /** Tells whether a sample was changed. */
        private static boolean smoothLine(int[] samples, int at, int step, int strength, int q) {
            int p1 = samples[at - 2 * step];
            int p0 = samples[at - step];
            int q0 = samples[at];
            int q1 = samples[at + step];
            boolean flat = Math.abs(p0 - q0) < 4 + 3 * q
                    && Math.abs(p1 - p0) < 2 + q && Math.abs(q1 - q0) < 2 + q;
            if (!flat) {
                return false;
            }
            int most = strength + q / 3;
            int change = (4 * (q0 - p0) + p1 - q1 + 4) >> 3;
            change = Math.max(-most, Math.min(most, change));
            samples[at - step] = limit(p0 + change);
            samples[at] = limit(q0 - change);
            return samples[at - step] != p0 || samples[at] != q0;
        }
    }

    /** Decodes a picture unit; nothing of it is kept as the latest one before it is finished. */
    private static final class PictureDecoder {
        static final int FARTHEST = 64;
        /** Where place p of a block's order stands, 4 * row + column. */
        private static final int[] STANDS = {0, 1, 4, 8, 5, 2, 3, 6, 9, 12, 13, 10, 7, 11, 14, 15};
        private static final int[] TRANSFORM = {2, 2, 2, 1, 2, 1, -2, -2, 2, -1, -2, 2, 2, -2, 2, -1};

        final BitReader bits = new BitReader();
        final Picture picture = new Picture();
        /** The blocks of the latest decoded picture; none is INTER when none has been decoded. */
        BlockRows latest = new BlockRows();
        final Picture[] references = new Picture[MOST_PLACES];
        int referenceCount;
        /** Which reference is to be released, by latest decoded first, or NONE. */
        int released;

        private BlockRows rows = new BlockRows();
        private final Motion motion = new Motion();
        private final int[] coefficients = new int[16];
        private int lastUsed;
        private int q;

        PictureDecoder() {
            // A stand-in, so that the row holds a picture everywhere.
            for (int k = 0; k < MOST_PLACES; k++) {
                references[k] = picture;
            }
        }

        void forgetLatest() {
            latest.clear();
        }

        void readHeader(boolean key, int rank, int base) {
            picture.orderNumber = bits.number(HIGHEST_ORDER, FAULT_RANGE);
            picture.reference = key || rank > 0;
            picture.waiting = true;
            q = base + BitReader.signed(bits.number(BitReader.ANY, FAULT_RANGE));
            if (q < 0 || q > HIGHEST_BASE) {
                bits.fail(FAULT_RANGE);
            }
            released = NONE;
            if (!key) {
                readUseOfReferences(rank);
            }
        }

        private void readUseOfReferences(int rank) {
            lastUsed = bits.number(referenceCount - 1, FAULT_REFERENCE);
            int first = bits.flag() ? bits.number(referenceCount - 1, FAULT_REFERENCE) : 0;
            if (rank > 0 && bits.flag()) {
                released = bits.number(referenceCount - 1, FAULT_REFERENCE);
            }
            putFirst(first);
        }

        private void putFirst(int index) {
            Picture first = references[index];
            for (int k = index; k > 0; k--) {
                references[k] = references[k - 1];
            }
            references[0] = first;
        }

        void readBlocks(boolean key) {
            for (int n = 0; n < BLOCKS && bits.failure == 0; n++) {
                rows.clearBlock(n);
                boolean copied = !key && !bits.flag();
                rows.inter[n] = copied || (!key && !bits.flag());
                boolean more = !copied;
                if (rows.inter[n]) {
                    readInter(n, copied);
                    motion.predict(references[rows.reference[n]], picture, n, rows.vx[n], rows.vy[n]);
                } else {
                    more = readIntra(n);
                }
                rows.residual[n] = more && bits.flag();
                if (rows.residual[n]) {
                    readResidual();
                    addResidual(n);
                }
            }
        }

        /** Tells whether a residual may follow. */
        private boolean readIntra(int n) {
            int mode = bits.bits(2);
            if (mode == 0) {
                for (int k = 0; k < 16; k++) {
                    picture.samples[sampleNumber(n, k)] = bits.bits(8);
                }
            } else if (mode == 1) {
                predictMean(n);
            } else if (mode == 2 && n >= 4) {
                predictFrom(n, -SIDE, 0, 1);
            } else if (mode == 3 && n % 4 > 0) {
                predictFrom(n, -1, SIDE, 0);
            } else {
                bits.fail(FAULT_NO_NEIGHBOUR);
            }
            return mode != 0;
        }

        private void predictMean(int n) {
            int corner = sampleNumber(n, 0);
            boolean above = n >= 4;
            boolean left = n % 4 > 0;
            int sum = 0;
            for (int k = 0; k < 4; k++) {
                sum += above ? picture.samples[corner - SIDE + k] : 0;
                sum += left ? picture.samples[corner - 1 + SIDE * k] : 0;
            }
            int mean = 128;
            if (above && left) {
                mean = (sum + 4) >> 3;
            } else if (above || left) {
                mean = (sum + 2) >> 2;
            }
            for (int k = 0; k < 16; k++) {
                picture.samples[sampleNumber(n, k)] = mean;
            }
        }

        /** Copies a line beside the block: from the corner by start, then a step for each row and column. */
        private void predictFrom(int n, int start, int rowStep, int columnStep) {
            int from = sampleNumber(n, 0) + start;
            for (int k = 0; k < 16; k++) {
                picture.samples[sampleNumber(n, k)]
                        = picture.samples[from + rowStep * (k / 4) + columnStep * (k % 4)];
            }
        }

        private void readInter(int n, boolean copied) {
            int vx = BlockRows.predicted(rows.vx, n);
            int vy = BlockRows.predicted(rows.vy, n);
            if (!copied) {
                rows.reference[n] = lastUsed > 0 ? bits.number(lastUsed, FAULT_REFERENCE) : 0;
                vx = within(vx + BitReader.signed(bits.number(BitReader.ANY, FAULT_RANGE)));
                vy = within(vy + BitReader.signed(bits.number(BitReader.ANY, FAULT_RANGE)));
            }
            rows.vx[n] = vx;
            rows.vy[n] = vy;
        }

        private int within(int part) {
            if (part < -FARTHEST || part > FARTHEST) {
                bits.fail(FAULT_RANGE);
                return 0;
            }
            return part;
        }

        private void readResidual() {
            Arrays.fill(coefficients, 0);
            int count = bits.number(15, FAULT_RANGE) + 1;
            int place = 0;
            for (int k = 0; k < count; k++) {
                place += bits.number(15 - place, FAULT_RANGE);
                int level = BitReader.signed(bits.number(BitReader.ANY, FAULT_RANGE));
                if (level == 0) {
                    bits.fail(FAULT_RANGE);
                }
                if (place < 16) {
                    coefficients[STANDS[place]] = level * scaleAt(STANDS[place]);
                }
                place++;
            }
        }

        private int scaleAt(int stand) {
            int odd = stand / 4 % 2 + stand % 2;
            int weight = odd == 0 ? 10 : odd == 1 ? 13 : 16;
            return (weight * (4 + q % 4)) << (q / 4);
        }

        private void addResidual(int n) {
            for (int k = 0; k < 16; k++) {
                int at = sampleNumber(n, k);
                picture.samples[at] = limit(picture.samples[at] + residualAt(k / 4, k % 4));
            }
        }

        private int residualAt(int y, int x) {
            int sum = 128;
            for (int k = 0; k < 16; k++) {
                sum += TRANSFORM[4 * y + k / 4] * TRANSFORM[4 * x + k % 4] * coefficients[k];
            }
            return sum >> 8;
        }

        void finish() {
            rows.smoothedLines = EdgeFilter.smooth(picture.samples, rows, q);
            BlockRows former = latest;
            latest = rows;
            rows = former;
        }
    }

    /** The buffer of decoded pictures, and what has been shown of them. */
    private static final class PictureBuffer {
        static final int REMEMBERED = 8;

        /** Those below count are held, by earliest decoded first; the others are spare. */
        final Picture[] slots = new Picture[MOST_PLACES];
        int count;
        int places;
        final int[] shownSamples = new int[SAMPLES];
        final int[] shownOrders = new int[REMEMBERED];
        int shownCount;

        PictureBuffer() {
            for (int k = 0; k < MOST_PLACES; k++) {
                slots[k] = new Picture();
            }
        }

        void clear() {
            count = 0;
            places = 0;
            shownCount = 0;
        }

        int shownOrder(int k) {
            if (k < 0 || k >= REMEMBERED || k >= shownCount) {
                return NONE;
            }
            return shownOrders[(shownCount - 1 - k) % REMEMBERED];
        }

        /** Fills the row with the references, by latest decoded first, and answers how many there are. */
        int listReferences(Picture[] row) {
            int found = 0;
            for (int k = count - 1; k >= 0; k--) {
                if (slots[k].reference) {
                    row[found] = slots[k];
                    found++;
                }
            }
            return found;
        }

        /** Shows all that wait and is empty then. */
        void showAll() {
            for (int k = 0; k < MOST_PLACES; k++) {
                showLeast();
            }
            count = 0;
        }

        /** Reference m, by latest decoded first, is one no more; nothing when there is none. */
        void release(int m) {
            int later = 0;
            for (int k = count - 1; k >= 0; k--) {
                if (slots[k].reference) {
                    slots[k].reference = later != m;
                    later++;
                }
            }
        }

        void admit(Picture fresh) {
            if (fresh.reference) {
                makeRoomForReference();
            }
            sweep();
            boolean passedBy = false;
            // Each turn but the last ends the waiting of one picture, and there are four at most.
            for (int turn = 0; turn <= MOST_PLACES && count >= places && !passedBy; turn++) {
                int least = leastWaiting();
                passedBy = !fresh.reference && (least == NONE || slots[least].orderNumber > fresh.orderNumber);
                if (passedBy) {
                    show(fresh);
                } else {
                    showLeast();
                    sweep();
                }
            }
            if (!passedBy && count < MOST_PLACES) {
                slots[count].copy(fresh);
                count++;
            }
        }

        private void makeRoomForReference() {
            int earliest = NONE;
            int found = 0;
            for (int k = count - 1; k >= 0; k--) {
                if (slots[k].reference) {
                    earliest = k;
                    found++;
                }
            }
            if (earliest != NONE && found >= places) {
                slots[earliest].reference = false;
            }
        }

        /** Lets the pictures leave that neither are references nor wait. */
        private void sweep() {
            int kept = 0;
            for (int k = 0; k < count; k++) {
                Picture picture = slots[k];
                if (picture.reference || picture.waiting) {
                    slots[k] = slots[kept];
                    slots[kept] = picture;
                    kept++;
                }
            }
            count = kept;
        }

        private int leastWaiting() {
            int least = NONE;
            for (int k = 0; k < count; k++) {
                if (slots[k].waiting && (least == NONE || slots[k].orderNumber < slots[least].orderNumber)) {
                    least = k;
                }
            }
            return least;
        }

        private void showLeast() {
            int least = leastWaiting();
            if (least != NONE) {
                show(slots[least]);
                slots[least].waiting = false;
            }
        }

        private void show(Picture picture) {
            System.arraycopy(picture.samples, 0, shownSamples, 0, SAMPLES);
            shownOrders[shownCount % REMEMBERED] = picture.orderNumber;
            shownCount++;
        }
    }

    /** Writes units into a row of bytes. */
    private static final class UnitWriter {
        /** A key picture has at most 264 bytes, a byte 3 behind each two of them, and the start code. */
        static final int MOST_BYTES = 400;
        static final int PARAMETERS_HEAD = 39;
        static final int KEY_HEAD = 101;

        final int[] source = new int[SAMPLES];
        final int[] bytes = new int[MOST_BYTES];
        int count;
        private int zeros;
        private int gathered;
        private int gatheredBits;

        void putParameters(int places, int base) {
            begin(PARAMETERS_HEAD);
            putNumber(places);
            putNumber(base);
            close();
        }

        void putKeyPicture(int orderNumber) {
            begin(KEY_HEAD);
            putNumber(orderNumber);
            putNumber(0);
            for (int n = 0; n < BLOCKS; n++) {
                putBits(0, 2);
                for (int k = 0; k < 16; k++) {
                    putBits(source[sampleNumber(n, k)], 8);
                }
            }
            close();
        }

        private void begin(int head) {
            bytes[0] = 0;
            bytes[1] = 0;
            bytes[2] = 1;
            count = 3;
            zeros = 0;
            gathered = 0;
            gatheredBits = 0;
            putBits(head, 8);
        }

        private void close() {
            putBits(1, 1);
            if (gatheredBits > 0) {
                putBits(0, 8 - gatheredBits);
            }
        }

        private void putNumber(int number) {
            int tail = 0;
            while (tail < BitReader.MOST_ZEROS && (2 << tail) <= number + 1) {
                tail++;
            }
            putBits(number + 1, 2 * tail + 1);
        }

        private void putBits(int value, int size) {
            for (int k = size - 1; k >= 0; k--) {
                gathered = 2 * gathered + ((value >> k) & 1);
                gatheredBits++;
                if (gatheredBits == 8) {
                    putByte(gathered);
                    gathered = 0;
                    gatheredBits = 0;
                }
            }
        }

        private void putByte(int value) {
            if (zeros == 2 && value <= 3) {
                append(3);
            }
            append(value);
        }

        private void append(int value) {
            if (count < MOST_BYTES) {
                bytes[count] = value;
                count++;
            }
            zeros = value == 0 ? zeros + 1 : 0;
        }
    }
}
