import java.util.Arrays;

/**
 * A plain row of blocks on disks with two parities, written in groups that are there wholly or not at all.
 *
 * <p>No row ever lacks more than two units, so both sums always tell what is gone: the bytes of blocks are
 * therefore held once, as they are kept, and of the disks only what decides the answers: their marks, their
 * rotten units and the halves of their labels.
 */
public final class StripeDisk {
    public static final int BAD = -1, OFF = -2, MANY = -3;

    private static final int LEAST_DISKS = 4;
    private static final int MOST_DISKS = 8;
    private static final int LEAST_ROWS = 12;
    private static final int MOST_ROWS = 40;
    private static final int UNIT = 64;
    private static final int SUMS = 2;
    private static final int FIRST_JOURNAL_ROW = 2;
    private static final int FIRST_STRIPE = 6;
    private static final int JOURNAL_ROWS = FIRST_STRIPE - FIRST_JOURNAL_ROW;
    private static final int MOST_BLOCKS = (MOST_DISKS - SUMS) * (MOST_ROWS - FIRST_STRIPE);
    private static final int MOST_USE = JOURNAL_ROWS * (MOST_DISKS - SUMS);
    private static final int MOST_GONE = 2;

    /** The mark of a lost disk: it lies before every row, so that all units of the disk are gone. */
    private static final int LOST = -1;

    /** The bits that tell of each unit that all of it is down. */
    private static final long ALL_DOWN = 0x5555555555555555L;

    /** Of each disk: LOST, the number of rows if it is whole, else the row up to which it is filled. */
    private final int[] mark;
    /** Of each disk: a bit for each row whose unit is rotten. */
    private final long[] rotten;
    private final byte[] kept;
    private final Group group;
    private final Group journal;
    private final Labels labels;
    private int disks;
    private int rows;
    private boolean power;

    public StripeDisk() {
        mark = new int[MOST_DISKS];
        rotten = new long[MOST_DISKS];
        kept = new byte[MOST_BLOCKS * UNIT];
        group = new Group();
        journal = new Group();
        labels = new Labels();
        layOut(LEAST_DISKS, LEAST_ROWS);
    }

    public int lay(int n, int r) {
        if (n < LEAST_DISKS || n > MOST_DISKS || r < LEAST_ROWS || r > MOST_ROWS) {
            return BAD;
        }
        layOut(n, r);
        return blocks();
    }

    public int write(int block, int at, int n, int v) {
        if (!power) {
            return OFF;
        }
        if (!isByte(block, at) || n < 1 || n > UNIT - at || v < 0 || v > 255) {
            return BAD;
        }
        int place = group.placeOf(block);
        if (place < 0) {
            int row = rowOf(block);
            if (group.useWithOneMore(row) > JOURNAL_ROWS * (disks - SUMS)) {
                return MANY;
            }
            place = group.take(block, row, kept);
        }
        group.set(place, at, n, v);
        return group.use();
    }

    public int read(int block, int at) {
        if (!power) {
            return OFF;
        }
        if (!isByte(block, at)) {
            return BAD;
        }
        int place = group.placeOf(block);
        return place < 0 ? kept[block * UNIT + at] & 255 : group.byteAt(place, at);
    }

    public int commit(int stop, long bits) {
        if (!power) {
            return OFF;
        }
        if (stop < 0 || stop > 4) {
            return BAD;
        }
        if (group.isEmpty()) {
            return 0;
        }
        if (stop == 1) {
            return powerFails();
        }
        journal.become(group);
        labels.draft(true, mark);
        if (stop == 2) {
            return powerFailsInLabel(bits);
        }
        finishLabel();
        if (stop == 3) {
            return powerFails();
        }
        journal.keepIn(kept);
        labels.draft(false, mark);
        if (stop == 4) {
            return powerFailsInLabel(bits);
        }
        finishLabel();
        int use = group.use();
        group.clear();
        return use;
    }

    public int forget() {
        if (!power) {
            return OFF;
        }
        int forgotten = group.size();
        group.clear();
        return forgotten;
    }

    public int lose(int disk) {
        if (!isDisk(disk) || mark[disk] == LOST) {
            return BAD;
        }
        if (!canBeMissed(disk)) {
            return MANY;
        }
        mark[disk] = LOST;
        rotten[disk] = 0;
        labels.wipe(disk);
        return lostDisks();
    }

    public int replace(int disk) {
        if (!isDisk(disk) || mark[disk] != LOST) {
            return BAD;
        }
        mark[disk] = 0;
        if (power) {
            labels.draft(false, mark);
            finishLabel();
        }
        return 0;
    }

    public int rot(int disk, int row) {
        if (!isDisk(disk) || !isRow(row) || isGone(disk, row)) {
            return BAD;
        }
        int goneBefore = goneIn(row);
        if (goneBefore >= MOST_GONE) {
            return MANY;
        }
        rotten[disk] |= 1L << row;
        return goneBefore + 1;
    }

    public int fill(int disk, int stop, long bits) {
        if (!power) {
            return OFF;
        }
        if (!isDisk(disk) || !isBlank(disk) || stop < 0 || stop > 2) {
            return BAD;
        }
        if (stop == 1) {
            return powerFails();
        }
        int next = mark[disk] + 1;
        labels.draft(false, mark);
        labels.tell(disk, next);
        if (stop == 2) {
            return powerFailsInLabel(bits);
        }
        finishLabel();
        mark[disk] = next;
        return next;
    }

    public int scrub(int row, int stop, long bits) {
        if (!power) {
            return OFF;
        }
        if (!isRow(row) || stop < 0 || stop > 1) {
            return BAD;
        }
        int found = rottenIn(row);
        if (found == 0) {
            return 0;
        }
        if (stop == 1) {
            return powerFails();
        }
        for (int disk = 0; disk < disks; disk++) {
            rotten[disk] &= ~(1L << row);
        }
        return found;
    }

    public int mount(int stop, long bits) {
        if (power || stop < 0 || stop > 3) {
            return BAD;
        }
        labels.findCounting();
        if (stop == 1) {
            writeLabelAgain(bits);
            return OFF;
        }
        writeLabelAgain(ALL_DOWN);
        takeMarksOfLabel();
        int written = 0;
        if (labels.tellsOfGroup()) {
            if (stop == 2) {
                return OFF;
            }
            journal.keepIn(kept);
            written = unitsOfJournal();
        }
        labels.draft(false, mark);
        if (stop == 3) {
            return powerFailsInLabel(bits);
        }
        finishLabel();
        power = true;
        return written;
    }

    public int fail() {
        if (!power) {
            return OFF;
        }
        powerFails();
        return 0;
    }

    public int check() {
        // Blocks never come to be kept without the sums of their rows: power is on only behind the last stage
        // of a commit, or behind a mounting that wrote all of the journal in its places. So every stripe fits.
        return power ? 0 : OFF;
    }

    public int gone(int row) {
        return isRow(row) ? goneIn(row) : BAD;
    }

    public int status(int disk) {
        return isDisk(disk) ? mark[disk] : MANY;
    }

    public int count(int which) {
        if (!power) {
            return OFF;
        }
        switch (which) {
            case 0:
                return blocks();
            case 1:
                return group.use();
            case 2:
                return group.size();
            case 3:
                return lostDisks();
            case 4:
                return blankDisks();
            default:
                return BAD;
        }
    }

    private void layOut(int n, int r) {
        disks = n;
        rows = r;
        power = true;
        Arrays.fill(mark, r);
        Arrays.fill(rotten, 0L);
        Arrays.fill(kept, (byte) 0);
        group.clear();
        for (int disk = 0; disk < MOST_DISKS; disk++) {
            labels.wipe(disk);
        }
        labels.draft(false, mark);
        finishLabel();
    }

    private int powerFails() {
        power = false;
        group.clear();
        return OFF;
    }

    private int powerFailsInLabel(long bits) {
        writeLabel(bits);
        return powerFails();
    }

    private void finishLabel() {
        writeLabel(ALL_DOWN);
        labels.draftCounts();
    }

    private void writeLabel(long bits) {
        int underWay = 0;
        for (int disk = 0; disk < disks; disk++) {
            if (mark[disk] != LOST) {
                labels.putDraft(disk, partDown(bits, underWay));
                underWay++;
            }
        }
    }

    /** A disk without any label must not get one here: it would then seem to be as full as the label tells. */
    private void writeLabelAgain(long bits) {
        int underWay = 0;
        for (int disk = 0; disk < disks; disk++) {
            if (labels.hasSome(disk)) {
                labels.putCounting(disk, partDown(bits, underWay));
                underWay++;
            }
        }
    }

    /** A label is under way on eight disks at most, so that its bits always are among the 64. */
    private static int partDown(long bits, int underWay) {
        return (int) (bits >>> (2 * underWay)) & 3;
    }

    private void takeMarksOfLabel() {
        for (int disk = 0; disk < disks; disk++) {
            if (mark[disk] != LOST) {
                mark[disk] = labels.hasSome(disk) ? labels.toldMark(disk) : 0;
            }
        }
    }

    /** The units that mounting writes in their places; rotten ones are written, too, though not mended by it. */
    private int unitsOfJournal() {
        int written = 0;
        for (int place = 0; place < journal.size(); place++) {
            int row = journal.rowAt(place);
            int dataUnit = journal.blockAt(place) % (disks - SUMS);
            written += takesUnit(row, SUMS + dataUnit);
            if (journal.isFirstOfRow(place)) {
                written += takesUnit(row, 0) + takesUnit(row, 1);
            }
        }
        return written;
    }

    /** 1 if the disk of a row's unit is there up to this row, else 0; units are numbered from the sum's on. */
    private int takesUnit(int row, int unit) {
        return mark[(row + unit) % disks] > row ? 1 : 0;
    }

    private int blocks() {
        return (disks - SUMS) * (rows - FIRST_STRIPE);
    }

    private int rowOf(int block) {
        return FIRST_STRIPE + block / (disks - SUMS);
    }

    private boolean isByte(int block, int at) {
        return block >= 0 && block < blocks() && at >= 0 && at < UNIT;
    }

    private boolean isDisk(int disk) {
        return disk >= 0 && disk < disks;
    }

    private boolean isRow(int row) {
        return row >= FIRST_JOURNAL_ROW && row < rows;
    }

    private boolean isBlank(int disk) {
        return mark[disk] != LOST && mark[disk] < rows;
    }

    private boolean isRotten(int disk, int row) {
        return (rotten[disk] >>> row & 1L) != 0;
    }

    private boolean isGone(int disk, int row) {
        return mark[disk] <= row || isRotten(disk, row);
    }

    private int goneIn(int row) {
        int found = 0;
        for (int disk = 0; disk < disks; disk++) {
            if (isGone(disk, row)) {
                found++;
            }
        }
        return found;
    }

    private int rottenIn(int row) {
        int found = 0;
        for (int disk = 0; disk < disks; disk++) {
            if (isRotten(disk, row)) {
                found++;
            }
        }
        return found;
    }

    private boolean canBeMissed(int disk) {
        for (int row = FIRST_JOURNAL_ROW; row < rows; row++) {
            if (!isGone(disk, row) && goneIn(row) >= MOST_GONE) {
                return false;
            }
        }
        return true;
    }

    private int lostDisks() {
        return disksMarked(LOST, LOST);
    }

    private int blankDisks() {
        return disksMarked(0, rows - 1);
    }

    private int disksMarked(int least, int most) {
        int found = 0;
        for (int disk = 0; disk < disks; disk++) {
            if (mark[disk] >= least && mark[disk] <= most) {
                found++;
            }
        }
        return found;
    }

    /** Blocks with bytes of their own that are not kept yet: those written since the last commit, or the journal's. */
    private static final class Group {
        private final int[] block = new int[MOST_USE];
        private final int[] rowOfBlock = new int[MOST_USE];
        private final byte[] bytes = new byte[MOST_USE * UNIT];
        private int taken;
        private int rowsTaken;

        void clear() {
            taken = 0;
            rowsTaken = 0;
        }

        boolean isEmpty() {
            return taken == 0;
        }

        int size() {
            return taken;
        }

        int blockAt(int place) {
            return block[place];
        }

        int rowAt(int place) {
            return rowOfBlock[place];
        }

        int byteAt(int place, int at) {
            return bytes[place * UNIT + at] & 255;
        }

        int use() {
            return taken == 0 ? 0 : 1 + taken + SUMS * rowsTaken;
        }

        int useWithOneMore(int row) {
            int rowsThen = firstOf(row) < 0 ? rowsTaken + 1 : rowsTaken;
            return 1 + taken + 1 + SUMS * rowsThen;
        }

        /** The place of a block, or -1. */
        int placeOf(int wanted) {
            for (int place = 0; place < taken; place++) {
                if (block[place] == wanted) {
                    return place;
                }
            }
            return -1;
        }

        boolean isFirstOfRow(int place) {
            return firstOf(rowOfBlock[place]) == place;
        }

        /** Takes one more block, as it is kept; the use is limited before, so that there is room. */
        int take(int newBlock, int row, byte[] kept) {
            if (firstOf(row) < 0) {
                rowsTaken++;
            }
            int place = taken;
            block[place] = newBlock;
            rowOfBlock[place] = row;
            System.arraycopy(kept, newBlock * UNIT, bytes, place * UNIT, UNIT);
            taken++;
            return place;
        }

        void set(int place, int at, int n, int v) {
            int from = place * UNIT + at;
            Arrays.fill(bytes, from, from + n, (byte) v);
        }

        void become(Group other) {
            System.arraycopy(other.block, 0, block, 0, other.taken);
            System.arraycopy(other.rowOfBlock, 0, rowOfBlock, 0, other.taken);
            System.arraycopy(other.bytes, 0, bytes, 0, other.taken * UNIT);
            taken = other.taken;
            rowsTaken = other.rowsTaken;
        }

        void keepIn(byte[] kept) {
            for (int place = 0; place < taken; place++) {
                System.arraycopy(bytes, place * UNIT, kept, block[place] * UNIT, UNIT);
            }
        }

        private int firstOf(int row) {
            for (int place = 0; place < taken; place++) {
                if (rowOfBlock[place] == row) {
                    return place;
                }
            }
            return -1;
        }
    }

    /**
     * Rows 0 and 1 of all disks. Every new label has a number of its own, and each half of a unit holds the number
     * of the label it was last written from: halves of two labels never make one.
     *
     * <p>What a label tells is needed only of the newest one of each row: when a new one is made, all disks that
     * have any label have the one that counts, in the other row, and of these two disks at least can't be lost.
     */
    private static final class Labels {
        private static final int ALL = 1;
        private static final int FIRST_HALF = 2;
        private static final int LAST_HALF = 3;

        private final int[][] firstHalf = new int[2][MOST_DISKS];
        private final int[][] lastHalf = new int[2][MOST_DISKS];
        private final int[][] told = new int[2][MOST_DISKS];
        private final int[] number = new int[2];
        private final boolean[] ofGroup = new boolean[2];
        private int made;
        /** The row of the label that counts, or was written wholly last. */
        private int counting;

        /** A new label, not written anywhere yet, in the row where the one that counts does not lie. */
        void draft(boolean tellsOfGroup, int[] marks) {
            int row = 1 - counting;
            made++;
            number[row] = made;
            ofGroup[row] = tellsOfGroup;
            System.arraycopy(marks, 0, told[row], 0, MOST_DISKS);
        }

        void tell(int disk, int mark) {
            told[1 - counting][disk] = mark;
        }

        void draftCounts() {
            counting = 1 - counting;
        }

        void putDraft(int disk, int part) {
            put(1 - counting, disk, part);
        }

        void putCounting(int disk, int part) {
            put(counting, disk, part);
        }

        void wipe(int disk) {
            for (int row = 0; row < 2; row++) {
                firstHalf[row][disk] = 0;
                lastHalf[row][disk] = 0;
            }
        }

        boolean hasSome(int disk) {
            return has(0, disk) || has(1, disk);
        }

        boolean tellsOfGroup() {
            return ofGroup[counting];
        }

        int toldMark(int disk) {
            return told[counting][disk];
        }

        void findCounting() {
            int latest = 0;
            for (int row = 0; row < 2; row++) {
                for (int disk = 0; disk < MOST_DISKS; disk++) {
                    if (has(row, disk) && firstHalf[row][disk] > latest) {
                        latest = firstHalf[row][disk];
                        counting = row;
                    }
                }
            }
        }

        private boolean has(int row, int disk) {
            return firstHalf[row][disk] != 0 && firstHalf[row][disk] == lastHalf[row][disk];
        }

        private void put(int row, int disk, int part) {
            if (part == ALL || part == FIRST_HALF) {
                firstHalf[row][disk] = number[row];
            }
            if (part == ALL || part == LAST_HALF) {
                lastHalf[row][disk] = number[row];
            }
        }
    }
}
