/** What the tests by hand are made of: what is due is compared with what was answered, and objects to begin with. */
class Sheet {
    static final int BAD = -1;
    static final int OFF = -2;
    static final int MANY = -3;
    static final int LOW = Integer.MIN_VALUE;
    static final int HIGH = Integer.MAX_VALUE;

    /** What may be down of a unit under way. */
    static final int NONE = 0;
    static final int ALL = 1;
    static final int FIRST = 2;
    static final int LAST = 3;
    static final long ALL_DOWN = 0x5555555555555555L;
    /** The first half on some disks and the last one on others: the label is wholly down on none. */
    static final long TORN = bits(FIRST, LAST, LAST, FIRST, LAST, FIRST, FIRST, LAST);
    /** On each disk the half that is not down of TORN. */
    static final long OTHER_HALVES = bits(LAST, FIRST, FIRST, LAST, FIRST, LAST, LAST, FIRST);

    private static int wrong = 0;
    private static String sentence = "";

    /** What is tested from here on, to be printed when it is broken. */
    static void begin(String text) {
        sentence = text;
    }

    static void due(int got, int want) {
        if (got != want) {
            broken("answered " + got + ", due is " + want);
        }
    }

    static void same(String got, String want) {
        if (!got.equals(want)) {
            broken("tells " + got + ", due is " + want);
        }
    }

    static void finish() {
        System.out.println(wrong == 0 ? "all answers are as due" : wrong + " answers are not as due");
        if (wrong != 0) {
            System.exit(1);
        }
    }

    static StripeDisk laid(int n, int r) {
        StripeDisk x = new StripeDisk();
        due(x.lay(n, r), (n - 2) * (r - 6));
        return x;
    }

    /** Disk 0 is lost, disk 1 filled up to row 3, disk 2 rotten in row 2; block 0 is kept, block 5 in the group. */
    static StripeDisk used() {
        StripeDisk x = new StripeDisk();
        due(x.write(0, 0, 64, 77), 4);
        due(x.commit(0, 0), 4);
        due(x.lose(1), 1);
        due(x.replace(1), 0);
        fillUpTo(x, 1, 3);
        due(x.lose(0), 1);
        due(x.rot(2, 2), 2);
        due(x.write(5, 0, 64, 88), 4);
        return x;
    }

    static void fillUpTo(StripeDisk x, int disk, int row) {
        for (int mark = x.status(disk); mark < row; mark++) {
            due(x.fill(disk, 0, 0), mark + 1);
        }
    }

    /** All that an object of lay(4, 12) tells while power is on. */
    static String seen(StripeDisk x) {
        StringBuilder text = new StringBuilder();
        for (int which = 0; which < 5; which++) {
            text.append(x.count(which)).append(' ');
        }
        for (int disk = 0; disk < 5; disk++) {
            text.append(x.status(disk)).append(' ');
        }
        for (int row = 1; row < 13; row++) {
            text.append(x.gone(row)).append(' ');
        }
        for (int block = 0; block < 13; block++) {
            text.append(x.read(block, 0)).append(' ').append(x.read(block, 63)).append(' ');
        }
        return text.append(x.check()).toString();
    }

    static long on(int unit, int part) {
        return (long) part << 2 * unit;
    }

    static long bits(int... parts) {
        long all = 0;
        for (int unit = 0; unit < parts.length; unit++) {
            all |= on(unit, parts[unit]);
        }
        return all;
    }

    private static void broken(String how) {
        wrong++;
        for (StackTraceElement caller : new Throwable().getStackTrace()) {
            if (!caller.getClassName().equals("Sheet")) {
                System.out.println(caller.getMethodName() + ", line " + caller.getLineNumber() + ": " + how
                    + " (" + sentence + ")");
                return;
            }
        }
    }
}
