import java.util.ArrayList;
import java.util.Comparator;
import java.util.List;

/** The document's words once more, in their plainest form, to compare the class with. */
final class Model {
    static final int[][] PLACES = {{0, 0}, {0, 1}, {1, 0}, {2, 0}, {1, 1}, {0, 2}, {0, 3}, {1, 2},
        {2, 1}, {3, 0}, {3, 1}, {2, 2}, {1, 3}, {2, 3}, {3, 2}, {3, 3}};
    static final int[][] T = {{2, 2, 2, 1}, {2, 1, -2, -2}, {2, -1, -2, 2}, {2, -2, 2, -1}};

    static final class Fault extends Exception {
        private static final long serialVersionUID = 1L;
        final int number;

        Fault(int number) {
            this.number = number;
        }
    }

    static final class Block {
        boolean intra;
        boolean residual;
        Shot reference;
        int vx;
        int vy;
    }

    static final class Shot {
        final int[][] at = new int[16][16];
        final Block[] blocks = new Block[16];
        int order;
        boolean reference;
        boolean waits;
        int lines;
    }

    private boolean outside = true;
    private int z = 0;
    private List<Integer> unit = new ArrayList<>();
    private int stopped = 0;
    private int worked = 0;
    private int[] pending = null;
    private int[] taken = null;
    private List<Shot> buffer = new ArrayList<>();
    private List<Shot> shots = new ArrayList<>();
    private Shot latest = null;
    private String data;
    private int next;
    private final int[] source = new int[256];
    private List<Integer> written = new ArrayList<>();

    int feed(int word, int count) {
        int ended = 0;
        if (count >= 1 && count <= 4) {
            String hex = String.format("%08x", word);
            for (int k = 4 - count; k < 4; k++) {
                ended += take(Integer.parseInt(hex.substring(2 * k, 2 * k + 2), 16));
            }
        }
        return ended;
    }

    private int take(int b) {
        if (stopped != 0) {
            return 0;
        }
        if (outside) {
            if (b == 1 && z >= 2) {
                outside = false;
                unit.clear();
                z = 0;
            } else if (b == 0) {
                z++;
            } else {
                z = 0;
            }
            return 0;
        }
        if (z == 2 && b == 0) {
            outside = true;
            z = 3;
            return work(unit.subList(0, unit.size() - 2));
        }
        if (z == 2 && b == 1) {
            List<Integer> done = unit.subList(0, unit.size() - 2);
            unit = new ArrayList<>();
            z = 0;
            return work(done);
        }
        if (z == 2 && b == 2) {
            stopped = 2;
        } else if (z == 2 && b == 3) {
            z = 0;
        } else if (unit.size() == 320) {
            stopped = 3;
        } else {
            unit.add(b);
            z = b == 0 ? z + 1 : 0;
        }
        return 0;
    }

    int end() {
        if (stopped != 0) {
            return 0;
        }
        int before = shots.size();
        if (!outside) {
            work(unit);
        }
        if (stopped == 0) {
            flush();
            pending = null;
            taken = null;
            outside = true;
            z = 0;
        }
        return shots.size() - before;
    }

    void reset() {
        outside = true;
        z = 0;
        stopped = 0;
        worked = 0;
        pending = null;
        taken = null;
        buffer.clear();
        shots.clear();
        latest = null;
    }

    int fault() {
        return stopped;
    }

    int units() {
        return worked;
    }

    int shown() {
        return shots.size();
    }

    int order(int k) {
        return k < 0 || k > 7 || k >= shots.size() ? -1 : shots.get(shots.size() - 1 - k).order;
    }

    int sample(int i) {
        return i < 0 || i > 255 || shots.isEmpty() ? -1 : shots.get(shots.size() - 1).at[i / 16][i % 16];
    }

    int held() {
        return buffer.size();
    }

    int heldState(int k) {
        if (k < 0 || k >= buffer.size()) {
            return -1;
        }
        Shot shot = buffer.get(k);
        return shot.order * 4 + (shot.reference ? 1 : 0) + (shot.waits ? 2 : 0);
    }

    int heldSample(int k, int i) {
        return k < 0 || k >= buffer.size() || i < 0 || i > 255 ? -1 : buffer.get(k).at[i / 16][i % 16];
    }

    int vector(int n) {
        if (latest == null || n < 0 || n > 15 || latest.blocks[n].intra) {
            return -1;
        }
        return 256 * (latest.blocks[n].vx + 64) + latest.blocks[n].vy + 64;
    }

    int smoothed() {
        return latest == null ? 0 : latest.lines;
    }

    boolean draw(int i, int v) {
        if (i < 0 || i > 255 || v < 0 || v > 255) {
            return false;
        }
        source[i] = v;
        return true;
    }

    int write(int kind, int a, int b) {
        StringBuilder bits = new StringBuilder();
        if (kind == 7 && a >= 0 && a <= 3 && b >= 0 && b <= 11) {
            bits.append(byteText(39)).append(numberText(a)).append(numberText(b));
        } else if (kind == 5 && a >= 0 && a <= 255) {
            bits.append(byteText(101)).append(numberText(a)).append(numberText(0));
            for (int n = 0; n < 16; n++) {
                bits.append("00");
                for (int k = 0; k < 16; k++) {
                    bits.append(byteText(source[16 * (4 * (n / 4) + k / 4) + 4 * (n % 4) + k % 4]));
                }
            }
        } else {
            return -1;
        }
        bits.append('1');
        while (bits.length() % 8 != 0) {
            bits.append('0');
        }
        frame(bits);
        return written.size();
    }

    private void frame(CharSequence bits) {
        written = new ArrayList<>(List.of(0, 0, 1));
        for (int at = 0; at < bits.length(); at += 8) {
            int b = Integer.parseInt(bits, at, at + 8, 2);
            int last = written.size() - 1;
            // The start code has a 1 behind its zeros, so no zeros but the unit's own are met.
            if (b <= 3 && written.get(last) == 0 && written.get(last - 1) == 0) {
                written.add(3);
            }
            written.add(b);
        }
    }

    int written(int k) {
        return k < 0 || k >= written.size() ? -1 : written.get(k);
    }

    int pass() {
        int ended = 0;
        for (int b : written) {
            ended += take(b);
        }
        return ended;
    }

    private static String byteText(int b) {
        return Integer.toBinaryString(256 + b).substring(1);
    }

    private static String numberText(int v) {
        String digits = Integer.toBinaryString(v + 1);
        return "0".repeat(digits.length() - 1) + digits;
    }

    int references() {
        return (int) buffer.stream().filter(s -> s.reference).count();
    }

    private int work(List<Integer> bytes) {
        if (bytes.isEmpty()) {
            return 0;
        }
        try {
            workThrough(bytes);
            worked++;
        } catch (Fault f) {
            stopped = f.number;
        }
        return 1;
    }

    private void workThrough(List<Integer> bytes) throws Fault {
        String head = byteText(bytes.get(0));
        if (head.charAt(0) == '1') {
            throw new Fault(1);
        }
        int rank = Integer.parseInt(head.substring(1, 3), 2);
        int type = Integer.parseInt(head.substring(3), 2);
        if (type != 1 && type != 5 && type != 7) {
            return;
        }
        StringBuilder all = new StringBuilder();
        for (int b : bytes.subList(1, bytes.size())) {
            all.append(byteText(b));
        }
        int mark = all.lastIndexOf("1");
        if (mark < 0) {
            throw new Fault(4);
        }
        data = all.substring(0, mark);
        next = 0;
        if (type == 7) {
            int a = within(number(), 0, 3);
            int b = within(number(), 0, 11);
            wholeRead();
            pending = new int[] {a + 1, b};
        } else {
            picture(type == 5, rank);
        }
    }

    private void wholeRead() throws Fault {
        if (next < data.length()) {
            throw new Fault(6);
        }
    }

    private int bits(int k) throws Fault {
        int v = 0;
        for (int i = 0; i < k; i++) {
            if (next >= data.length()) {
                throw new Fault(4);
            }
            v = v * 2 + (data.charAt(next++) - '0');
        }
        return v;
    }

    private int number() throws Fault {
        int zeros = 0;
        while (bits(1) == 0) {
            zeros++;
            if (zeros == 11) {
                throw new Fault(5);
            }
        }
        int power = 1;
        for (int i = 0; i < zeros; i++) {
            power *= 2;
        }
        return power - 1 + bits(zeros);
    }

    private int signed() throws Fault {
        int k = number();
        return k % 2 == 1 ? (k + 1) / 2 : -(k / 2);
    }

    private static int within(int v, int low, int high) throws Fault {
        if (v < low || v > high) {
            throw new Fault(5);
        }
        return v;
    }

    private int index(int count) throws Fault {
        int k = number();
        if (k >= count) {
            throw new Fault(8);
        }
        return k;
    }

    private void picture(boolean key, int rank) throws Fault {
        if (key && pending == null && taken == null) {
            throw new Fault(7);
        }
        List<Shot> references = new ArrayList<>();
        for (Shot shot : buffer) {
            if (shot.reference) {
                references.add(0, shot);
            }
        }
        if (!key && references.isEmpty()) {
            throw new Fault(8);
        }
        Shot shot = new Shot();
        shot.order = within(number(), 0, 255);
        int base = key && pending != null ? pending[1] : taken[1];
        int q = within(base + signed(), 0, 11);
        List<Shot> list = new ArrayList<>(references);
        int a = 0;
        Shot released = null;
        if (!key) {
            a = index(references.size());
            if (bits(1) == 1) {
                Shot first = references.get(index(references.size()));
                list.remove(first);
                list.add(0, first);
            }
            if (rank > 0 && bits(1) == 1) {
                released = references.get(index(references.size()));
            }
        }
        for (int n = 0; n < 16; n++) {
            block(shot, n, key, list, a, q);
        }
        wholeRead();
        filter(shot, q);
        latest = shot;
        store(shot, key, rank, released);
    }

    private void block(Shot shot, int n, boolean key, List<Shot> list, int a, int q) throws Fault {
        Block block = new Block();
        shot.blocks[n] = block;
        boolean copied = !key && bits(1) == 0;
        block.intra = key || !copied && bits(1) == 1;
        int[][] predicted = new int[4][4];
        boolean mayHaveResidual = true;
        if (block.intra) {
            int mode = bits(2);
            mayHaveResidual = mode != 0;
            intra(shot, n, mode, predicted);
        } else {
            int[] v = predictedVector(shot, n);
            int r = 0;
            if (!copied) {
                if (a > 0) {
                    r = index(a + 1);
                }
                v[0] = within(v[0] + signed(), -64, 64);
                v[1] = within(v[1] + signed(), -64, 64);
            }
            block.reference = list.get(r);
            block.vx = v[0];
            block.vy = v[1];
            mayHaveResidual = !copied;
            for (int y = 0; y < 4; y++) {
                for (int x = 0; x < 4; x++) {
                    predicted[y][x] = moved(block.reference, 4 * (n % 4) + x, 4 * (n / 4) + y, v[0], v[1]);
                }
            }
        }
        int[][] residual = new int[4][4];
        if (mayHaveResidual && bits(1) == 1) {
            block.residual = true;
            residual(residual, q);
        }
        for (int y = 0; y < 4; y++) {
            for (int x = 0; x < 4; x++) {
                shot.at[4 * (n / 4) + y][4 * (n % 4) + x] = limit(predicted[y][x] + residual[y][x]);
            }
        }
    }

    private void intra(Shot shot, int n, int mode, int[][] predicted) throws Fault {
        int top = 4 * (n / 4);
        int left = 4 * (n % 4);
        if (mode == 2 && top == 0 || mode == 3 && left == 0) {
            throw new Fault(9);
        }
        int sumAbove = 0;
        int sumLeft = 0;
        for (int k = 0; k < 4; k++) {
            sumAbove += top > 0 ? shot.at[top - 1][left + k] : 0;
            sumLeft += left > 0 ? shot.at[top + k][left - 1] : 0;
        }
        int mean = 128;
        if (top > 0 && left > 0) {
            mean = (sumAbove + sumLeft + 4) / 8;
        } else if (top > 0) {
            mean = (sumAbove + 2) / 4;
        } else if (left > 0) {
            mean = (sumLeft + 2) / 4;
        }
        for (int y = 0; y < 4; y++) {
            for (int x = 0; x < 4; x++) {
                switch (mode) {
                    case 0 -> predicted[y][x] = bits(8);
                    case 1 -> predicted[y][x] = mean;
                    case 2 -> predicted[y][x] = shot.at[top - 1][left + x];
                    default -> predicted[y][x] = shot.at[top + y][left - 1];
                }
            }
        }
    }

    private static int[] vectorAt(Shot shot, int row, int column) {
        if (row < 0 || column < 0 || column > 3 || shot.blocks[4 * row + column].intra) {
            return new int[] {0, 0};
        }
        Block block = shot.blocks[4 * row + column];
        return new int[] {block.vx, block.vy};
    }

    private static int[] predictedVector(Shot shot, int n) {
        int row = n / 4;
        int column = n % 4;
        int[] a = vectorAt(shot, row, column - 1);
        if (row == 0) {
            return a;
        }
        int[] b = vectorAt(shot, row - 1, column);
        int[] c = vectorAt(shot, row - 1, column + 1 <= 3 ? column + 1 : column - 1);
        int[] v = new int[2];
        for (int k = 0; k < 2; k++) {
            int[] three = {a[k], b[k], c[k]};
            java.util.Arrays.sort(three);
            v[k] = three[1];
        }
        return v;
    }

    private static int f(Shot s, int i, int j) {
        return s.at[Math.min(15, Math.max(0, j))][Math.min(15, Math.max(0, i))];
    }

    private static int h(Shot s, int i, int j) {
        return f(s, i - 2, j) - 5 * f(s, i - 1, j) + 20 * f(s, i, j)
            + 20 * f(s, i + 1, j) - 5 * f(s, i + 2, j) + f(s, i + 3, j);
    }

    private static int moved(Shot s, int x, int y, int vx, int vy) {
        int bigX = 2 * x + vx;
        int bigY = 2 * y + vy;
        int i = Math.floorDiv(bigX, 2);
        int j = Math.floorDiv(bigY, 2);
        boolean oddX = bigX % 2 != 0;
        boolean oddY = bigY % 2 != 0;
        if (oddX && oddY) {
            int g = h(s, i, j - 2) - 5 * h(s, i, j - 1) + 20 * h(s, i, j)
                + 20 * h(s, i, j + 1) - 5 * h(s, i, j + 2) + h(s, i, j + 3);
            return limit(Math.floorDiv(g + 512, 1024));
        }
        if (oddX) {
            return limit(Math.floorDiv(h(s, i, j) + 16, 32));
        }
        if (oddY) {
            int v = f(s, i, j - 2) - 5 * f(s, i, j - 1) + 20 * f(s, i, j)
                + 20 * f(s, i, j + 1) - 5 * f(s, i, j + 2) + f(s, i, j + 3);
            return limit(Math.floorDiv(v + 16, 32));
        }
        return f(s, i, j);
    }

    private void residual(int[][] out, int q) throws Fault {
        int count = within(number(), 0, 15) + 1;
        int[][] c = new int[4][4];
        int place = 0;
        for (int k = 0; k < count; k++) {
            place = within(place + number(), 0, 15);
            int level = signed();
            if (level == 0) {
                throw new Fault(5);
            }
            int u = PLACES[place][0];
            int v = PLACES[place][1];
            int w = u % 2 == 0 && v % 2 == 0 ? 10 : u % 2 == 1 && v % 2 == 1 ? 16 : 13;
            c[u][v] = level * w * (4 + q % 4) * new int[] {1, 2, 4}[q / 4];
            place++;
        }
        for (int y = 0; y < 4; y++) {
            for (int x = 0; x < 4; x++) {
                int sum = 0;
                for (int u = 0; u < 4; u++) {
                    for (int v = 0; v < 4; v++) {
                        sum += T[y][u] * T[x][v] * c[u][v];
                    }
                }
                out[y][x] = Math.floorDiv(sum + 128, 256);
            }
        }
    }

    private static void filter(Shot shot, int q) {
        for (int n = 0; n < 16; n++) {
            int top = 4 * (n / 4);
            int left = 4 * (n % 4);
            for (int k = 0; k < 4 && left > 0; k++) {
                line(shot, q, strength(shot.blocks[n - 1], shot.blocks[n]), left, top + k, 1, 0);
            }
            for (int k = 0; k < 4 && top > 0; k++) {
                line(shot, q, strength(shot.blocks[n - 4], shot.blocks[n]), left + k, top, 0, 1);
            }
        }
    }

    private static int strength(Block p, Block q) {
        if (p.intra || q.intra) {
            return 2;
        }
        if (p.residual || q.residual || p.reference != q.reference) {
            return 1;
        }
        return Math.abs(p.vx - q.vx) >= 2 || Math.abs(p.vy - q.vy) >= 2 ? 1 : 0;
    }

    private static void line(Shot s, int q, int strength, int x, int y, int stepX, int stepY) {
        int p1 = s.at[y - 2 * stepY][x - 2 * stepX];
        int p0 = s.at[y - stepY][x - stepX];
        int q0 = s.at[y][x];
        int q1 = s.at[y + stepY][x + stepX];
        if (strength == 0 || Math.abs(p0 - q0) >= 4 + 3 * q || Math.abs(p1 - p0) >= 2 + q
            || Math.abs(q1 - q0) >= 2 + q) {
            return;
        }
        int d = Math.floorDiv(4 * (q0 - p0) + p1 - q1 + 4, 8);
        int t = strength + q / 3;
        d = d < -t ? -t : Math.min(d, t);
        s.at[y - stepY][x - stepX] = limit(p0 + d);
        s.at[y][x] = limit(q0 - d);
        if (limit(p0 + d) != p0 || limit(q0 - d) != q0) {
            s.lines++;
        }
    }

    private static int limit(int v) {
        return v < 0 ? 0 : Math.min(v, 255);
    }

    private void flush() {
        List<Shot> waiting = new ArrayList<>(buffer.stream().filter(s -> s.waits).toList());
        waiting.sort(Comparator.comparingInt(s -> s.order));
        shots.addAll(waiting);
        buffer.clear();
    }

    private void store(Shot shot, boolean key, int rank, Shot released) {
        boolean asReference = key || rank > 0;
        if (key) {
            flush();
            if (pending != null) {
                taken = pending;
                pending = null;
            }
        }
        if (released != null) {
            released.reference = false;
        }
        int places = taken[0];
        if (asReference && references() == places) {
            buffer.stream().filter(s -> s.reference).findFirst().get().reference = false;
        }
        buffer.removeIf(s -> !s.reference && !s.waits);
        while (buffer.size() == places) {
            Shot least = buffer.stream().filter(s -> s.waits)
                .min(Comparator.comparingInt(s -> s.order)).orElse(null);
            if (!asReference && (least == null || least.order > shot.order)) {
                shots.add(shot);
                return;
            }
            shots.add(least);
            least.waits = false;
            buffer.removeIf(s -> !s.reference && !s.waits);
        }
        shot.waits = true;
        shot.reference = asReference;
        buffer.add(shot);
    }
}
