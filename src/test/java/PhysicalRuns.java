import java.util.ArrayList;
import java.util.Arrays;
import java.util.List;
import java.util.TreeMap;
import java.util.TreeSet;

/**
 * Compares StripeDisk with disks that hold every byte: labels, a journal, stripes and both sums lie in units that are
 * torn, rot and are lost, and everything that is told is read back from them. The runs are made by a fixed rule.
 */
public final class PhysicalRuns {
    private static final int RUNS = 4000;
    private static final int CALLS = 300;
    private static final int[] ODD = {
        Integer.MIN_VALUE, Integer.MIN_VALUE + 1, -65, -1, 41, 64, 65, 255, 256, Integer.MAX_VALUE - 63, Integer.MAX_VALUE
    };

    private static long seed;
    private static int wrong = 0;

    public static void main(String[] args) {
        for (int run = 0; run < RUNS && wrong == 0; run++) {
            seed = 0x9E3779B97F4A7C15L * (run + 1);
            oneRun(run);
        }
        System.out.println(wrong == 0 ? "all runs agree with the disks" : "the class and the disks differ");
        if (wrong != 0) {
            System.exit(1);
        }
    }

    private static void oneRun(int run) {
        StripeDisk x = new StripeDisk();
        Disks y = new Disks();
        List<String> told = new ArrayList<>();
        if (any(4) != 0) {
            int n = 4 + any(5);
            int r = any(5) == 0 ? 12 + any(29) : 12 + any(3);
            step(run, told, "lay(" + n + ", " + r + ")", x.lay(n, r), y.lay(n, r));
        }
        // with the reads behind it a run stays below 512 calls
        for (int i = 0; i < CALLS && told.size() < CALLS && wrong == 0; i++) {
            oneCall(run, told, x, y);
        }
        for (int block = 0; block < y.blocks() && wrong == 0; block++) {
            int at = any(64);
            step(run, told, "read(" + block + ", " + at + ")", x.read(block, at), y.read(block, at));
        }
    }

    private static void oneCall(int run, List<String> told, StripeDisk x, Disks y) {
        int kind = any(100);
        if (!y.power && kind < 40) {
            int stop = any(2) == 0 ? 0 : number(4);
            long bits = bits();
            step(run, told, "mount(" + stop + ", " + bits + ")", x.mount(stop, bits), y.mount(stop, bits));
        } else if (kind < 30) {
            int block = any(3) == 0 ? any(4) : number(y.blocks() + 1);
            int at = number(65);
            int n = any(3) == 0 ? 64 - at : number(65);
            int v = number(257);
            step(run, told, "write(" + block + ", " + at + ", " + n + ", " + v + ")",
                x.write(block, at, n, v), y.write(block, at, n, v));
        } else if (kind < 40) {
            int block = number(y.blocks() + 1);
            int at = number(65);
            step(run, told, "read(" + block + ", " + at + ")", x.read(block, at), y.read(block, at));
        } else if (kind < 55) {
            int stop = any(2) == 0 ? 0 : number(6);
            long bits = bits();
            step(run, told, "commit(" + stop + ", " + bits + ")", x.commit(stop, bits), y.commit(stop, bits));
        } else if (kind < 80) {
            diskCall(run, told, x, y);
        } else {
            otherCall(run, told, x, y);
        }
    }

    private static void diskCall(int run, List<String> told, StripeDisk x, Disks y) {
        int disk = number(y.n + 1);
        int row = any(3) == 0 ? 2 + any(5) : number(y.r + 1);
        int stop = any(2) == 0 ? 0 : number(4);
        long bits = bits();
        switch (any(8)) {
            case 0:
                step(run, told, "lose(" + disk + ")", x.lose(disk), y.lose(disk));
                break;
            case 1:
            case 2:
                step(run, told, "replace(" + disk + ")", x.replace(disk), y.replace(disk));
                break;
            case 3:
                step(run, told, "rot(" + disk + ", " + row + ")", x.rot(disk, row), y.rot(disk, row));
                break;
            case 4:
                step(run, told, "scrub(" + row + ", " + stop + ", " + bits + ")",
                    x.scrub(row, stop, bits), y.scrub(row, stop, bits));
                break;
            default:
                int often = 1 + any(4);
                for (int i = 0; i < often && wrong == 0; i++) {
                    step(run, told, "fill(" + disk + ", " + stop + ", " + bits + ")",
                        x.fill(disk, stop, bits), y.fill(disk, stop, bits));
                }
        }
    }

    private static void otherCall(int run, List<String> told, StripeDisk x, Disks y) {
        int disk = number(y.n + 1);
        int row = number(y.r + 1);
        switch (any(12)) {
            case 0:
                step(run, told, "forget()", x.forget(), y.forget());
                break;
            case 1:
                step(run, told, "fail()", x.fail(), y.fail());
                break;
            case 2:
            case 3:
                step(run, told, "check()", x.check(), y.check());
                break;
            case 4:
            case 5:
                step(run, told, "gone(" + row + ")", x.gone(row), y.gone(row));
                break;
            case 6:
            case 7:
            case 8:
                step(run, told, "status(" + disk + ")", x.status(disk), y.status(disk));
                break;
            case 9:
                if (any(20) == 0) {
                    int n = number(10);
                    int r = number(42);
                    step(run, told, "lay(" + n + ", " + r + ")", x.lay(n, r), y.lay(n, r));
                }
                break;
            default:
                int which = number(6);
                step(run, told, "count(" + which + ")", x.count(which), y.count(which));
        }
    }

    private static void step(int run, List<String> told, String call, int got, int want) {
        told.add(call + " = " + got);
        if (got != want) {
            wrong++;
            for (String line : told) {
                System.out.println(line);
            }
            System.out.println("run " + run + ": " + call + " answered " + got + ", due is " + want);
        }
    }

    private static int any(int below) {
        seed = seed * 6364136223846793005L + 1442695040888963407L;
        return (int) ((seed >>> 33) % below);
    }

    /** Mostly one of 0 .. below - 1, at times a number that is far off. */
    private static int number(int below) {
        return any(40) == 0 ? ODD[any(ODD.length)] : any(below);
    }

    /** Few units wholly down, or halves of some, or all of them by chance. */
    private static long bits() {
        switch (any(4)) {
            case 0:
                return 0;
            case 1:
                return 1L << 2 * any(8);
            case 2:
                return (2L + any(2)) << 2 * any(8) | (2L + any(2)) << 2 * any(8);
            default:
                return ((long) any(1 << 30) << 34) ^ ((long) any(1 << 30) << 10) ^ any(1 << 12);
        }
    }
}

/** One unit that a stage writes. */
final class Put {
    final int disk;
    final int row;
    final byte[] bytes;

    Put(int disk, int row, byte[] bytes) {
        this.disk = disk;
        this.row = row;
        this.bytes = bytes;
    }
}

/** The field of 256 numbers in which sums are weighted. */
final class Field {
    private Field() {
    }

    static int times(int a, int b) {
        int product = 0;
        for (int i = 0; i < 8; i++) {
            if ((b >> i & 1) != 0) {
                product ^= a << i;
            }
        }
        for (int i = 14; i >= 8; i--) {
            if ((product >> i & 1) != 0) {
                product ^= 0x11D << i - 8;
            }
        }
        return product;
    }

    static int power(int a, int n) {
        int result = 1;
        for (int i = 0; i < n; i++) {
            result = times(result, a);
        }
        return result;
    }

    static int inverse(int a) {
        return power(a, 254);
    }

    /** How unit u of a row (0 sum, 1 weighted sum, then data) counts in the first or the second sum. */
    static int weight(int second, int u) {
        if (u < 2) {
            return u == second ? 1 : 0;
        }
        return second == 0 ? 1 : power(2, u - 2);
    }
}

/** The disks with all their bytes. */
final class Disks {
    private static final int BAD = -1;
    private static final int OFF = -2;
    private static final int MANY = -3;

    int n;
    int r;
    boolean power;
    private byte[][][] unit;
    private boolean[][] rotten;
    private boolean[] lost;
    private int[] mark;
    private TreeMap<Integer, byte[]> group;
    private long labelNumber;
    private int labelRow;

    Disks() {
        lay(4, 12);
    }

    int blocks() {
        return (n - 2) * (r - 6);
    }

    int lay(int disks, int rows) {
        if (disks < 4 || disks > 8 || rows < 12 || rows > 40) {
            return BAD;
        }
        n = disks;
        r = rows;
        unit = new byte[n][r][64];
        rotten = new boolean[n][r];
        lost = new boolean[n];
        mark = new int[n];
        Arrays.fill(mark, r);
        group = new TreeMap<>();
        power = true;
        labelRow = 1;
        wholeLabel(false, mark);
        return blocks();
    }

    int write(int block, int at, int length, int v) {
        if (!power) {
            return OFF;
        }
        if (block < 0 || block >= blocks() || at < 0 || length < 1 || length > 64 || (long) at + length > 64
            || v < 0 || v > 255) {
            return BAD;
        }
        TreeMap<Integer, byte[]> then = new TreeMap<>(group);
        byte[] bytes = now(block).clone();
        Arrays.fill(bytes, at, at + length, (byte) v);
        then.put(block, bytes);
        if (use(then) > 4 * (n - 2)) {
            return MANY;
        }
        group = then;
        return use(group);
    }

    int read(int block, int at) {
        if (!power) {
            return OFF;
        }
        return block < 0 || block >= blocks() || at < 0 || at > 63 ? BAD : now(block)[at] & 255;
    }

    int commit(int stop, long bits) {
        if (!power) {
            return OFF;
        }
        if (stop < 0 || stop > 4) {
            return BAD;
        }
        if (group.isEmpty()) {
            return 0;
        }
        int use = use(group);
        List<Put> places = places();
        if (stage(journal(places), stop == 1, bits)) {
            return OFF;
        }
        if (labelStage(true, mark, stop == 2, bits)) {
            return OFF;
        }
        if (stage(places, stop == 3, bits)) {
            return OFF;
        }
        if (labelStage(false, mark, stop == 4, bits)) {
            return OFF;
        }
        group.clear();
        return use;
    }

    int forget() {
        if (!power) {
            return OFF;
        }
        int had = group.size();
        group.clear();
        return had;
    }

    int lose(int disk) {
        if (disk < 0 || disk >= n || lost[disk]) {
            return BAD;
        }
        for (int row = 2; row < r; row++) {
            int others = 0;
            for (int d = 0; d < n; d++) {
                others += d != disk && isGone(d, row) ? 1 : 0;
            }
            if (others > 1) {
                return MANY;
            }
        }
        lost[disk] = true;
        for (int row = 0; row < r; row++) {
            Arrays.fill(unit[disk][row], (byte) (0x5A + row));
            rotten[disk][row] = false;
        }
        return lostDisks();
    }

    int replace(int disk) {
        if (disk < 0 || disk >= n || !lost[disk]) {
            return BAD;
        }
        lost[disk] = false;
        mark[disk] = 0;
        if (power) {
            wholeLabel(false, mark);
        }
        return 0;
    }

    int rot(int disk, int row) {
        if (disk < 0 || disk >= n || row < 2 || row >= r || isGone(disk, row)) {
            return BAD;
        }
        if (gone(row) > 1) {
            return MANY;
        }
        rotten[disk][row] = true;
        Arrays.fill(unit[disk][row], (byte) 0xA5);
        return gone(row);
    }

    int fill(int disk, int stop, long bits) {
        if (!power) {
            return OFF;
        }
        if (disk < 0 || disk >= n || lost[disk] || mark[disk] == r || stop < 0 || stop > 2) {
            return BAD;
        }
        int row = mark[disk];
        if (row > 1) {
            tear(disk, row, unitOf(disk, row), stop == 1 ? (int) bits & 3 : 1);
        }
        if (stop == 1) {
            return cut();
        }
        int[] marks = mark.clone();
        marks[disk]++;
        if (labelStage(false, marks, stop == 2, bits)) {
            return OFF;
        }
        mark = marks;
        return mark[disk];
    }

    int scrub(int row, int stop, long bits) {
        if (!power) {
            return OFF;
        }
        if (row < 2 || row >= r || stop < 0 || stop > 1) {
            return BAD;
        }
        List<Put> puts = new ArrayList<>();
        for (int d = 0; d < n; d++) {
            if (rotten[d][row]) {
                puts.add(new Put(d, row, unitOf(d, row)));
            }
        }
        if (puts.isEmpty()) {
            return 0;
        }
        if (stage(puts, stop == 1, bits)) {
            return OFF;
        }
        for (Put put : puts) {
            rotten[put.disk][row] = false;
        }
        return puts.size();
    }

    int mount(int stop, long bits) {
        if (power || stop < 0 || stop > 3) {
            return BAD;
        }
        boolean[] has = new boolean[n];
        byte[] counts = null;
        for (int d = 0; d < n; d++) {
            for (int row = 0; row < 2; row++) {
                if (!lost[d] && isLabel(unit[d][row])) {
                    has[d] = true;
                    if (counts == null || labelNumber(unit[d][row]) > labelNumber(counts)) {
                        counts = unit[d][row].clone();
                        labelRow = row;
                    }
                }
            }
        }
        int underWay = 0;
        for (int d = 0; d < n; d++) {
            if (has[d]) {
                tear(d, labelRow, counts, stop == 1 ? (int) (bits >>> 2 * underWay) & 3 : 1);
                underWay++;
            }
        }
        if (stop == 1) {
            return cut();
        }
        for (int d = 0; d < n; d++) {
            mark[d] = has[d] ? counts[9 + d] : 0;
        }
        int written = 0;
        if (counts[8] == 1) {
            List<Put> places = placesInJournal();
            for (Put put : places) {
                written += !lost[put.disk] && put.row < mark[put.disk] ? 1 : 0;
            }
            if (stage(places, stop == 2, bits)) {
                return OFF;
            }
        }
        if (labelStage(false, mark, stop == 3, bits)) {
            return OFF;
        }
        power = true;
        return written;
    }

    int fail() {
        if (!power) {
            return OFF;
        }
        cut();
        return 0;
    }

    int check() {
        if (!power) {
            return OFF;
        }
        int unfit = 0;
        for (int row = 6; row < r; row++) {
            if (gone(row) == 0 && !fits(row)) {
                unfit++;
            }
        }
        return unfit;
    }

    int gone(int row) {
        if (row < 2 || row >= r) {
            return BAD;
        }
        int count = 0;
        for (int d = 0; d < n; d++) {
            count += isGone(d, row) ? 1 : 0;
        }
        return count;
    }

    int status(int disk) {
        if (disk < 0 || disk >= n) {
            return MANY;
        }
        return lost[disk] ? -1 : mark[disk];
    }

    int count(int which) {
        if (!power) {
            return OFF;
        }
        int blank = 0;
        for (int d = 0; d < n; d++) {
            blank += !lost[d] && mark[d] < r ? 1 : 0;
        }
        int[] answers = {blocks(), use(group), group.size(), lostDisks(), blank};
        return which < 0 || which > 4 ? BAD : answers[which];
    }

    private int lostDisks() {
        int count = 0;
        for (boolean one : lost) {
            count += one ? 1 : 0;
        }
        return count;
    }

    private int use(TreeMap<Integer, byte[]> blocks) {
        return blocks.isEmpty() ? 0 : 1 + blocks.size() + 2 * rowsOf(blocks).size();
    }

    private TreeSet<Integer> rowsOf(TreeMap<Integer, byte[]> blocks) {
        TreeSet<Integer> rows = new TreeSet<>();
        for (int block : blocks.keySet()) {
            rows.add(6 + block / (n - 2));
        }
        return rows;
    }

    private boolean isGone(int disk, int row) {
        return lost[disk] || row >= mark[disk] || rotten[disk][row];
    }

    private byte[] now(int block) {
        byte[] written = group.get(block);
        int row = 6 + block / (n - 2);
        return written != null ? written : unitOf((row + 2 + block % (n - 2)) % n, row);
    }

    /** A unit as it lies on its disk, or, if it is gone, as the others of its row tell it. */
    private byte[] unitOf(int disk, int row) {
        if (!isGone(disk, row)) {
            return unit[disk][row];
        }
        int x = Math.floorMod(disk - row, n);
        int y = -1;
        for (int u = 0; u < n; u++) {
            if (u != x && isGone((row + u) % n, row)) {
                if (y >= 0) {
                    throw new IllegalStateException("three units of a row are gone");
                }
                y = u;
            }
        }
        byte[] solved = new byte[64];
        for (int i = 0; i < 64; i++) {
            solved[i] = (byte) solve(row, i, x, y);
        }
        return solved;
    }

    private int solve(int row, int i, int x, int y) {
        int[] known = new int[2];
        for (int u = 0; u < n; u++) {
            if (u != x && u != y) {
                int value = unit[(row + u) % n][row][i] & 255;
                known[0] ^= Field.times(Field.weight(0, u), value);
                known[1] ^= Field.times(Field.weight(1, u), value);
            }
        }
        int a = Field.weight(0, x);
        int c = Field.weight(1, x);
        if (y < 0) {
            return a != 0 ? Field.times(Field.inverse(a), known[0]) : Field.times(Field.inverse(c), known[1]);
        }
        int b = Field.weight(0, y);
        int d = Field.weight(1, y);
        int determinant = Field.times(a, d) ^ Field.times(b, c);
        int top = Field.times(known[0], d) ^ Field.times(known[1], b);
        return Field.times(top, Field.inverse(determinant));
    }

    private boolean fits(int row) {
        byte[][] data = new byte[n - 2][];
        for (int k = 0; k < n - 2; k++) {
            data[k] = unit[(row + 2 + k) % n][row];
        }
        return Arrays.equals(sum(data, 0), unit[row % n][row]) && Arrays.equals(sum(data, 1), unit[(row + 1) % n][row]);
    }

    private static byte[] sum(byte[][] data, int second) {
        byte[] result = new byte[64];
        for (int k = 0; k < data.length; k++) {
            int weight = Field.weight(second, k + 2);
            for (int i = 0; i < 64; i++) {
                result[i] ^= (byte) Field.times(weight, data[k][i] & 255);
            }
        }
        return result;
    }

    /** All units of the group, with the sums of their rows. */
    private List<Put> places() {
        List<Put> puts = new ArrayList<>();
        for (int block : group.keySet()) {
            int row = 6 + block / (n - 2);
            puts.add(new Put((row + 2 + block % (n - 2)) % n, row, group.get(block)));
        }
        for (int row : rowsOf(group)) {
            byte[][] data = new byte[n - 2][];
            for (int k = 0; k < n - 2; k++) {
                data[k] = now((row - 6) * (n - 2) + k);
            }
            puts.add(new Put(row % n, row, sum(data, 0)));
            puts.add(new Put((row + 1) % n, row, sum(data, 1)));
        }
        return puts;
    }

    /** The journal's rows: a unit that tells disks and rows, then the units that go there. */
    private List<Put> journal(List<Put> places) {
        byte[][] data = new byte[4 * (n - 2)][64];
        data[0][0] = (byte) places.size();
        for (int i = 0; i < places.size(); i++) {
            data[0][1 + 2 * i] = (byte) places.get(i).disk;
            data[0][2 + 2 * i] = (byte) places.get(i).row;
            data[1 + i] = places.get(i).bytes;
        }
        List<Put> puts = new ArrayList<>();
        for (int row = 2; row < 6; row++) {
            byte[][] ofRow = Arrays.copyOfRange(data, (row - 2) * (n - 2), (row - 1) * (n - 2));
            for (int k = 0; k < n - 2; k++) {
                puts.add(new Put((row + 2 + k) % n, row, ofRow[k]));
            }
            puts.add(new Put(row % n, row, sum(ofRow, 0)));
            puts.add(new Put((row + 1) % n, row, sum(ofRow, 1)));
        }
        return puts;
    }

    private byte[] journalUnit(int i) {
        int row = 2 + i / (n - 2);
        return unitOf((row + 2 + i % (n - 2)) % n, row);
    }

    private List<Put> placesInJournal() {
        byte[] head = journalUnit(0);
        List<Put> puts = new ArrayList<>();
        for (int i = 0; i < head[0]; i++) {
            puts.add(new Put(head[1 + 2 * i], head[2 + 2 * i], journalUnit(1 + i).clone()));
        }
        return puts;
    }

    /** Writes what can be written; tells whether power failed in it. */
    private boolean stage(List<Put> puts, boolean fails, long bits) {
        int underWay = 0;
        for (Put put : puts) {
            if (!lost[put.disk] && put.row < mark[put.disk]) {
                int down = underWay < 32 ? (int) (bits >>> 2 * underWay) & 3 : 0;
                tear(put.disk, put.row, put.bytes, fails ? down : 1);
                underWay++;
            }
        }
        if (fails) {
            cut();
        }
        return fails;
    }

    private boolean labelStage(boolean ofGroup, int[] marks, boolean fails, long bits) {
        if (!fails) {
            wholeLabel(ofGroup, marks);
            return false;
        }
        newLabel(ofGroup, marks, bits);
        cut();
        return true;
    }

    private void wholeLabel(boolean ofGroup, int[] marks) {
        newLabel(ofGroup, marks, 0x5555555555555555L);
        labelRow = 1 - labelRow;
    }

    private void newLabel(boolean ofGroup, int[] marks, long bits) {
        labelNumber++;
        byte[] label = new byte[64];
        for (int i = 0; i < 8; i++) {
            label[i] = (byte) (labelNumber >>> 8 * i);
        }
        label[8] = (byte) (ofGroup ? 1 : 0);
        for (int d = 0; d < n; d++) {
            label[9 + d] = (byte) marks[d];
        }
        long digest = digest(label);
        for (int i = 0; i < 8; i++) {
            label[32 + i] = (byte) (digest >>> 8 * i);
        }
        int underWay = 0;
        for (int d = 0; d < n; d++) {
            if (!lost[d]) {
                tear(d, 1 - labelRow, label, (int) (bits >>> 2 * underWay) & 3);
                underWay++;
            }
        }
    }

    private static long digest(byte[] label) {
        long hash = 0xcbf29ce484222325L;
        for (int i = 0; i < 32; i++) {
            hash = (hash ^ (label[i] & 255)) * 0x100000001b3L;
        }
        return hash;
    }

    private static long labelNumber(byte[] label) {
        long number = 0;
        for (int i = 7; i >= 0; i--) {
            number = number << 8 | (label[i] & 255);
        }
        return number;
    }

    private static boolean isLabel(byte[] label) {
        long digest = digest(label);
        for (int i = 0; i < 8; i++) {
            if (label[32 + i] != (byte) (digest >>> 8 * i)) {
                return false;
            }
        }
        return true;
    }

    private void tear(int disk, int row, byte[] bytes, int down) {
        if (down == 1 || down == 2) {
            System.arraycopy(bytes, 0, unit[disk][row], 0, 32);
        }
        if (down == 1 || down == 3) {
            System.arraycopy(bytes, 32, unit[disk][row], 32, 32);
        }
    }

    private int cut() {
        power = false;
        group.clear();
        return OFF;
    }
}
