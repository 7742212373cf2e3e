/**
 * A test of its own for each sentence of promises 1 to 17 that names a boundary case: too small, too large, empty, full,
 * refused. The sentence stands in each test and is printed when it is broken.
 */
public final class PromiseBoundaries extends Sheet {
    public static void main(String[] args) {
        blockCalls();
        diskCalls();
        powerCalls();
        tellingCalls();
        finish();
    }

    private static void blockCalls() {
        newObjectIsLaid();
        layAnswersBlocks();
        layMakesAllNew();
        layIsRefused();
        writeOneByteToAll();
        writeIsRefused();
        writeIsTooMuch();
        readIsOfABlock();
        readIsRefused();
        commitAnswersTheUse();
        commitWithoutAGroup();
        commitIsRefused();
        forgetAnswersBlocks();
        forgetWithoutAGroup();
    }

    private static void diskCalls() {
        loseAnswersHowMany();
        loseIsRefused();
        loseIsTooMuch();
        replaceIsToldByALabel();
        replaceIsRefused();
        rotAnswersHowMany();
        rotIsRefused();
        rotIsTooMuch();
        fillGoesThroughRowsZeroAndOne();
        fillStopOneIsOff();
        fillStopTwoIsALabel();
        fillMakesWhole();
        fillIsRefused();
        scrubAnswersHowMany();
        scrubIsRefused();
        scrubStops();
        scrubWithoutRot();
    }

    private static void powerCalls() {
        mountAnswersUnits();
        mountLeavesOutUnitsAtTheMark();
        mountIsRefused();
        mountStopTwoWithoutAGroup();
        failWithNothingUnderWay();
        failIsRefused();
    }

    private static void tellingCalls() {
        checkFits();
        checkLeavesOutWhatIsGone();
        goneIsCounted();
        goneIsRefused();
        statusOfADisk();
        statusWhilePowerIsOff();
        statusIsRefused();
        countAnswers();
        countIsRefused();
    }

    // Promises 1 to 6

    private static void newObjectIsLaid() {
        begin("StripeDisk(): As behind lay(4, 12).");
        same(seen(new StripeDisk()), seen(laid(4, 12)));
        StripeDisk x = new StripeDisk();
        due(x.count(0), 12);
        due(x.gone(12), BAD);
        due(x.status(4), MANY);
        due(x.fail(), 0);
        due(x.mount(0, 0), 0);
        same(seen(x), seen(laid(4, 12)));
    }

    private static void layAnswersBlocks() {
        begin("n disks of r rows, all whole, no unit rotten; all blocks 0s, no group: how many blocks");
        for (int n = 4; n <= 8; n++) {
            for (int r = 12; r <= 40; r++) {
                due(new StripeDisk().lay(n, r), (n - 2) * (r - 6));
            }
            StripeDisk x = laid(n, 40);
            for (int block = 0; block < x.count(0); block++) {
                due(x.read(block, block % 64), 0);
            }
            for (int disk = 0; disk < n; disk++) {
                due(x.status(disk), 40);
            }
            for (int row = 2; row < 40; row++) {
                due(x.gone(row), 0);
            }
            due(x.count(1), 0);
            due(x.count(2), 0);
        }
    }

    private static void layMakesAllNew() {
        begin("a label on all disks that says that the journal is empty; power is on");
        for (int how = 0; how < 3; how++) {
            StripeDisk x = laid(8, 40);
            due(x.write(0, 0, 64, 1), 4);
            due(x.commit(0, 0), 4);
            due(x.write(3, 0, 64, 2), 4);
            due(x.lose(0), 1);
            due(x.replace(0), 0);
            fillUpTo(x, 0, 12);
            due(x.rot(1, 11), 1);
            due(x.lose(7), 1);
            if (how > 0) {
                due(x.commit(how + 1, on(3, ALL)), OFF);
            }
            due(x.lay(4, 12), 12);
            same(seen(x), seen(new StripeDisk()));
            due(x.lay(8, 40), 204);
            due(x.read(0, 0), 0);
            due(x.read(3, 0), 0);
            due(x.gone(11), 0);
            due(x.status(7), 40);
            due(x.fail(), 0);
            due(x.lose(1), 1);
            due(x.lose(2), 2);
            due(x.mount(2, 0), 0);
            due(x.read(3, 0), 0);
            due(x.status(0), 40);
            due(x.status(7), 40);
        }
    }

    private static void layIsRefused() {
        begin("BAD: n is not 4 .. 8, or r not 12 .. 40.");
        int[][] bad = {
            {3, 12}, {9, 12}, {4, 11}, {4, 41}, {3, 11}, {9, 41}, {8, 11}, {8, 41}, {3, 40}, {9, 40}, {0, 0}, {-4, -12},
            {12, 4}, {LOW, 12}, {4, LOW}, {HIGH, 12}, {4, HIGH}, {HIGH, HIGH}, {LOW, LOW},
        };
        StripeDisk x = used();
        String before = seen(x);
        for (int[] one : bad) {
            due(x.lay(one[0], one[1]), BAD);
        }
        same(seen(x), before);
        due(x.fail(), 0);
        for (int[] one : bad) {
            due(x.lay(one[0], one[1]), BAD);
        }
        due(x.count(0), OFF);
        due(x.status(0), -1);
        due(x.status(1), 3);
        due(x.gone(11), 2);
    }

    private static void writeOneByteToAll() {
        begin("n bytes of a block, from one on, become v: the group's use");
        for (int at = 0; at < 64; at++) {
            StripeDisk x = new StripeDisk();
            due(x.write(0, 0, 64, 255), 4);
            due(x.write(0, at, 64 - at, 128), 4);
            due(x.write(1, at, 1, 255), 5);
            for (int i = 0; i < 64; i++) {
                due(x.read(0, i), i < at ? 255 : 128);
                due(x.read(1, i), i == at ? 255 : 0);
            }
        }
    }

    private static void writeIsRefused() {
        begin("BAD: no such bytes, n is not 1 .. 64, v not 0 .. 255");
        int[][] bad = {
            {-1, 0, 1, 1}, {12, 0, 1, 1}, {LOW, 0, 1, 1}, {HIGH, 0, 1, 1}, {0, -1, 1, 1}, {0, 64, 1, 1}, {0, LOW, 1, 1},
            {0, HIGH, 1, 1}, {0, HIGH, HIGH, 1}, {0, -1, 64, 1}, {0, -64, 64, 1}, {0, 0, 0, 1}, {0, 63, 0, 1}, {0, 64, 0, 1},
            {0, 0, -1, 1}, {0, 0, 65, 1}, {0, 1, 64, 1}, {0, 63, 2, 1}, {0, 5, LOW, 1}, {0, 5, HIGH, 1}, {0, LOW, HIGH, 1},
            {0, 0, 1, -1}, {0, 0, 1, 256}, {0, 0, 1, LOW}, {0, 0, 1, HIGH}, {0, 0, 64, 256}, {67108864, 0, 1, 1},
        };
        StripeDisk x = used();
        String before = seen(x);
        for (int[] one : bad) {
            due(x.write(one[0], one[1], one[2], one[3]), BAD);
        }
        same(seen(x), before);
        due(x.forget(), 1);
        due(x.write(11, 63, 1, 255), 4);
        due(x.write(11, 0, 64, 0), 4);
        // BAD comes before MANY
        due(x.write(0, 0, 1, 1), 7);
        due(x.write(1, 0, 1, 1), 8);
        due(x.write(2, 0, 1, 256), BAD);
        due(x.write(2, 0, 65, 1), BAD);
        due(x.write(12, 0, 1, 1), BAD);
        due(x.write(2, 0, 1, 1), MANY);
    }

    private static void writeIsTooMuch() {
        begin("MANY: the use would be too much (nothing changes)");
        StripeDisk x = new StripeDisk();
        due(x.write(2, 0, 64, 3), 4);
        due(x.commit(0, 0), 4);
        due(x.write(4, 0, 1, 1), 4);
        due(x.write(6, 0, 1, 1), 7);
        String before = seen(x);
        due(x.write(2, 0, 64, 9), MANY);
        due(x.write(11, 0, 64, 9), MANY);
        same(seen(x), before);
        due(x.write(7, 0, 1, 1), 8);
        before = seen(x);
        due(x.write(5, 0, 64, 9), MANY);
        due(x.write(2, 0, 64, 9), MANY);
        same(seen(x), before);
        due(x.read(2, 0), 3);
        due(x.commit(0, 0), 8);
        due(x.read(5, 0), 0);
        due(x.read(2, 0), 3);
        due(x.write(5, 0, 64, 9), 4);
    }

    private static void readIsOfABlock() {
        begin("A byte of a block, as it is now: 0 .. 255.");
        StripeDisk x = new StripeDisk();
        for (int v = 0; v < 256; v += 51) {
            due(x.write(11, 63, 1, v), 4);
            due(x.read(11, 63), v);
            due(x.commit(0, 0), 4);
            due(x.read(11, 63), v);
            due(x.read(11, 62), 0);
        }
    }

    private static void readIsRefused() {
        begin("A byte of a block, as it is now: 0 .. 255. BAD: there is none.");
        StripeDisk x = new StripeDisk();
        int[][] bad = {
            {-1, 0}, {12, 0}, {0, -1}, {0, 64}, {11, 64}, {12, -64}, {1, -64}, {LOW, 0}, {HIGH, 0}, {0, LOW}, {0, HIGH},
            {67108864, 0}, {-1, 64},
        };
        for (int[] one : bad) {
            due(x.read(one[0], one[1]), BAD);
        }
        due(x.read(0, 0), 0);
        due(x.read(11, 63), 0);
        due(x.lay(8, 40), 204);
        due(x.read(203, 63), 0);
        due(x.read(204, 0), BAD);
    }

    private static void commitAnswersTheUse() {
        begin("The group is committed: its use");
        StripeDisk x = new StripeDisk();
        due(x.write(0, 0, 1, 1), 4);
        due(x.commit(0, -1), 4);
        due(x.write(0, 0, 1, 1), 4);
        due(x.write(1, 0, 1, 1), 5);
        due(x.write(2, 0, 1, 1), 8);
        due(x.commit(0, 0), 8);
        due(x.read(0, 0), 1);
        due(x.read(1, 0), 1);
        due(x.read(2, 0), 1);
    }

    private static void commitWithoutAGroup() {
        begin("0, and nothing is written (and power does not fail, whatever stop), if there is none");
        StripeDisk x = new StripeDisk();
        for (int stop = 0; stop < 5; stop++) {
            due(x.commit(stop, ALL_DOWN), 0);
            due(x.count(0), 12);
            due(x.write(0, 0, 1, 1), 4);
            due(x.forget(), 1);
            due(x.commit(stop, 0), 0);
            due(x.write(0, 0, 1, stop), 4);
            due(x.commit(0, 0), 4);
            due(x.commit(stop, -1), 0);
            due(x.read(0, 0), stop);
        }
        // no label and no journal either: the last group does not come again
        due(x.write(0, 0, 1, 7), 4);
        due(x.forget(), 1);
        due(x.commit(2, ALL_DOWN), 0);
        due(x.fail(), 0);
        due(x.mount(0, 0), 0);
        due(x.read(0, 0), 4);
    }

    private static void commitIsRefused() {
        begin("commit: BAD: stop is not 0 .. 4.");
        StripeDisk x = used();
        String before = seen(x);
        for (int stop : new int[] {LOW, -1, 5, 6, HIGH}) {
            due(x.commit(stop, 0), BAD);
        }
        same(seen(x), before);
        due(x.forget(), 1);
        for (int stop : new int[] {LOW, -1, 5, 6, HIGH}) {
            due(x.commit(stop, 0), BAD);
        }
        due(x.count(0), 12);
    }

    private static void forgetAnswersBlocks() {
        begin("The group is forgotten: now are the blocks as they are kept: how many blocks it had.");
        StripeDisk x = new StripeDisk();
        due(x.write(0, 0, 64, 1), 4);
        due(x.write(1, 0, 64, 1), 5);
        due(x.commit(0, 0), 5);
        due(x.write(0, 0, 32, 2), 4);
        due(x.write(1, 0, 32, 2), 5);
        due(x.write(3, 0, 64, 2), 8);
        due(x.forget(), 3);
        due(x.read(0, 0), 1);
        due(x.read(1, 0), 1);
        due(x.read(3, 0), 0);
        due(x.count(1), 0);
        due(x.count(2), 0);
        due(x.write(3, 5, 1, 3), 4);
        due(x.read(3, 0), 0);
        due(x.read(3, 5), 3);
    }

    private static void forgetWithoutAGroup() {
        begin("how many blocks it had, without one");
        StripeDisk x = new StripeDisk();
        due(x.forget(), 0);
        due(x.write(0, 0, 1, 1), 4);
        due(x.forget(), 1);
        due(x.forget(), 0);
        due(x.write(0, 0, 1, 1), 4);
        due(x.commit(0, 0), 4);
        due(x.forget(), 0);
        due(x.read(0, 0), 1);
    }

    // Promises 7 to 11

    private static void loseAnswersHowMany() {
        begin("A disk is lost, with all that is on it: how many are.");
        for (int a = 0; a < 4; a++) {
            for (int b = 0; b < 4; b++) {
                if (a != b) {
                    StripeDisk x = new StripeDisk();
                    due(x.write(0, 0, 64, 1), 4);
                    due(x.lose(a), 1);
                    due(x.status(a), -1);
                    due(x.lose(b), 2);
                    due(x.status(b), -1);
                    due(x.count(3), 2);
                    due(x.count(1), 4);
                    due(x.commit(0, 0), 4);
                    due(x.read(0, 0), 1);
                }
            }
        }
    }

    private static void loseIsRefused() {
        begin("lose: BAD: there is none, or it is lost");
        StripeDisk x = used();
        String before = seen(x);
        for (int disk : new int[] {LOW, -1, 0, 4, 8, HIGH}) {
            due(x.lose(disk), BAD);
        }
        same(seen(x), before);
        due(x.fail(), 0);
        for (int disk : new int[] {LOW, -1, 0, 4, 8, HIGH}) {
            due(x.lose(disk), BAD);
        }
        // a lost disk is BAD, though a third one would be MANY
        StripeDisk y = new StripeDisk();
        due(y.lose(0), 1);
        due(y.lose(1), 2);
        due(y.lose(0), BAD);
        due(y.lose(2), MANY);
    }

    private static void loseIsTooMuch() {
        begin("MANY: some row would have three units gone");
        StripeDisk x = used();
        String before = seen(x);
        due(x.lose(2), MANY);
        due(x.lose(3), MANY);
        due(x.lose(1), MANY);
        same(seen(x), before);
        due(x.scrub(2, 0, 0), 1);
        due(x.lose(1), 2);
        // one row is enough, the first and the last one that count, too
        for (int row : new int[] {2, 5, 6, 11}) {
            StripeDisk y = laid(5, 12);
            due(y.rot(0, row), 1);
            due(y.rot(1, row), 2);
            due(y.lose(2), MANY);
            due(y.status(2), 12);
            due(y.lose(1), 1);
            due(y.lose(3), MANY);
            due(y.scrub(row, 0, 0), 1);
            due(y.lose(3), 2);
        }
        // two in one row and two in another do not add up
        StripeDisk z = laid(6, 12);
        due(z.rot(0, 2), 1);
        due(z.rot(1, 3), 1);
        due(z.rot(2, 4), 1);
        due(z.lose(3), 1);
        due(z.lose(4), MANY);
        due(z.scrub(2, 0, 0), 1);
        due(z.scrub(3, 0, 0), 1);
        due(z.scrub(4, 0, 0), 1);
        due(z.lose(4), 2);
    }

    private static void replaceIsToldByALabel() {
        begin("A lost disk is replaced by a blank one: 0; if power is on, a label says so.");
        StripeDisk x = new StripeDisk();
        due(x.lose(3), 1);
        due(x.replace(3), 0);
        due(x.status(3), 0);
        due(x.fail(), 0);
        due(x.mount(0, 0), 0);
        due(x.status(3), 0);
        // the label is on the blank disk, too: it is written again there
        due(x.write(0, 0, 1, 1), 4);
        due(x.commit(0, 0), 4);
        due(x.lose(3), 1);
        due(x.replace(3), 0);
        due(x.write(0, 0, 1, 2), 4);
        due(x.commit(2, bits(ALL, NONE, NONE, FIRST)), OFF);
        due(x.mount(1, on(3, LAST)), OFF);
        due(x.lose(0), 1);
        due(x.mount(0, 0), 1);
        due(x.read(0, 0), 2);
        // while power is off no label says so: the disk has none until stage 3 of mounting
        due(x.fail(), 0);
        due(x.replace(0), 0);
        due(x.status(0), 0);
        due(x.mount(1, -1), OFF);
        due(x.status(0), 0);
        due(x.mount(0, 0), 0);
        due(x.status(0), 0);
        due(x.read(0, 0), 2);
    }

    private static void replaceIsRefused() {
        begin("BAD: it is not lost.");
        StripeDisk x = used();
        String before = seen(x);
        for (int disk : new int[] {LOW, -1, 1, 2, 3, 4, HIGH}) {
            due(x.replace(disk), BAD);
        }
        same(seen(x), before);
        due(x.fail(), 0);
        for (int disk : new int[] {LOW, -1, 1, 2, 3, 4, HIGH}) {
            due(x.replace(disk), BAD);
        }
        due(x.replace(0), 0);
        due(x.replace(0), BAD);
    }

    private static void rotAnswersHowMany() {
        begin("A unit of row 2 or more rots: how many units of that row are gone then.");
        StripeDisk x = new StripeDisk();
        for (int row = 2; row < 12; row++) {
            due(x.rot(row % 4, row), 1);
            due(x.rot((row + 2) % 4, row), 2);
        }
        StripeDisk y = new StripeDisk();
        due(y.lose(0), 1);
        due(y.rot(3, 2), 2);
        due(y.rot(3, 11), 2);
    }

    private static void rotIsRefused() {
        begin("BAD: no such unit, or it is gone (rotten already, too)");
        int[][] bad = {
            {-1, 2}, {4, 2}, {3, 0}, {3, 1}, {3, -1}, {3, 12}, {3, 34}, {3, 66}, {LOW, 2}, {HIGH, 2}, {3, LOW}, {3, HIGH},
            {0, 2}, {0, 11}, {1, 3}, {1, 11}, {2, 2}, {7, 7}, {-1, -1},
        };
        StripeDisk x = used();
        String before = seen(x);
        for (int[] one : bad) {
            due(x.rot(one[0], one[1]), BAD);
        }
        same(seen(x), before);
        due(x.fail(), 0);
        for (int[] one : bad) {
            due(x.rot(one[0], one[1]), BAD);
        }
        due(x.mount(0, 0), 0);
        due(x.scrub(2, 0, 0), 1);
        due(x.rot(1, 2), 2);
    }

    private static void rotIsTooMuch() {
        begin("MANY: two of its row are.");
        StripeDisk x = used();
        String before = seen(x);
        due(x.rot(3, 2), MANY);
        due(x.rot(3, 3), MANY);
        due(x.rot(2, 11), MANY);
        same(seen(x), before);
        due(x.replace(0), 0);
        due(x.rot(3, 2), MANY);
        fillUpTo(x, 0, 3);
        due(x.rot(3, 2), 2);
        due(x.rot(3, 3), MANY);
    }

    private static void fillGoesThroughRowsZeroAndOne() {
        begin("(rows 0 and 1, too, count here as rows; stop 1 is OFF in any case)");
        StripeDisk x = new StripeDisk();
        due(x.lose(0), 1);
        due(x.replace(0), 0);
        due(x.fill(0, 0, 0), 1);
        due(x.gone(2), 1);
        due(x.fill(0, 0, 0), 2);
        due(x.gone(2), 1);
        due(x.fill(0, 0, 0), 3);
        due(x.gone(2), 0);
        due(x.gone(3), 1);
    }

    private static void fillStopOneIsOff() {
        begin("stop 1 is OFF in any case");
        for (int mark = 0; mark < 12; mark++) {
            StripeDisk x = new StripeDisk();
            due(x.lose(0), 1);
            due(x.replace(0), 0);
            fillUpTo(x, 0, mark);
            due(x.fill(0, 1, mark % 4), OFF);
            due(x.status(0), mark);
            due(x.count(0), OFF);
            due(x.mount(0, 0), 0);
            due(x.status(0), mark);
            due(x.fill(0, 0, 0), mark + 1);
        }
    }

    private static void fillStopTwoIsALabel() {
        begin("stage 2 a label with its mark, one more, on all disks that are not lost");
        for (int mark = 0; mark < 12; mark++) {
            for (int unit = 0; unit < 4; unit++) {
                StripeDisk x = laid(5, 12);
                due(x.lose(4), 1);
                due(x.lose(1), 2);
                due(x.replace(1), 0);
                fillUpTo(x, 1, mark);
                due(x.fill(1, 2, on(unit, LAST)), OFF);
                due(x.mount(0, 0), 0);
                due(x.status(1), mark);
                due(x.fill(1, 2, on(unit, ALL)), OFF);
                due(x.status(1), mark);
                due(x.mount(0, 0), 0);
                due(x.status(1), mark + 1);
            }
            StripeDisk y = laid(5, 12);
            due(y.lose(4), 1);
            due(y.lose(1), 2);
            due(y.replace(1), 0);
            fillUpTo(y, 1, mark);
            due(y.fill(1, 2, on(4, ALL)), OFF);
            due(y.mount(0, 0), 0);
            due(y.status(1), mark);
        }
    }

    private static void fillMakesWhole() {
        begin("the mark; the disk is whole when that is r");
        for (int r = 12; r <= 40; r += 7) {
            StripeDisk x = laid(4, r);
            due(x.write(0, 0, 64, 7), 4);
            due(x.commit(0, 0), 4);
            due(x.lose(0), 1);
            due(x.replace(0), 0);
            for (int mark = 1; mark <= r; mark++) {
                due(x.count(4), 1);
                due(x.gone(r - 1), 1);
                due(x.fill(0, 0, -1), mark);
                due(x.status(0), mark);
            }
            due(x.count(4), 0);
            due(x.gone(r - 1), 0);
            due(x.fill(0, 0, 0), BAD);
            due(x.lose(2), 1);
            due(x.lose(3), 2);
            due(x.read(0, 0), 7);
        }
    }

    private static void fillIsRefused() {
        begin("fill: BAD: it is not blank, or stop is not 0 .. 2.");
        StripeDisk x = used();
        String before = seen(x);
        for (int disk : new int[] {LOW, -1, 0, 2, 3, 4, 8, HIGH}) {
            for (int stop = 0; stop < 3; stop++) {
                due(x.fill(disk, stop, 0), BAD);
            }
        }
        for (int stop : new int[] {LOW, -1, 3, 4, HIGH}) {
            due(x.fill(1, stop, 0), BAD);
        }
        same(seen(x), before);
        due(x.fill(1, 0, 0), 4);
    }

    private static void scrubAnswersHowMany() {
        begin("All rotten units of a row are written anew (stage 1), and are not rotten any more: how many there were.");
        StripeDisk x = laid(8, 40);
        due(x.write(203, 0, 64, 3), 4);
        due(x.commit(0, 0), 4);
        due(x.rot(0, 39), 1);
        due(x.rot(7, 39), 2);
        due(x.rot(7, 38), 1);
        due(x.rot(7, 2), 1);
        due(x.scrub(39, 0, -1), 2);
        due(x.gone(39), 0);
        due(x.gone(38), 1);
        due(x.gone(2), 1);
        due(x.scrub(2, 0, 0), 1);
        due(x.scrub(38, 0, 0), 1);
        due(x.gone(2), 0);
        due(x.read(203, 63), 3);
        // those of lost and blank disks are gone, but not rotten
        due(x.lose(0), 1);
        due(x.rot(1, 20), 2);
        due(x.scrub(20, 0, 0), 1);
        due(x.gone(20), 1);
        due(x.replace(0), 0);
        due(x.scrub(20, 0, 0), 0);
        due(x.gone(20), 1);
    }

    private static void scrubIsRefused() {
        begin("BAD: no such row of 2 or more, or stop is not 0 .. 1.");
        StripeDisk x = used();
        String before = seen(x);
        for (int row : new int[] {LOW, -1, 0, 1, 12, 34, 66, HIGH}) {
            due(x.scrub(row, 0, 0), BAD);
            due(x.scrub(row, 1, 0), BAD);
        }
        for (int stop : new int[] {LOW, -1, 2, 3, HIGH}) {
            due(x.scrub(2, stop, 0), BAD);
            due(x.scrub(11, stop, 0), BAD);
        }
        same(seen(x), before);
        due(x.scrub(2, 0, 0), 1);
        due(x.scrub(11, 0, 0), 0);
    }

    private static void scrubStops() {
        begin("(When power fails, none is mended");
        for (long down : new long[] {0, 1, 4, 5, -1}) {
            StripeDisk x = new StripeDisk();
            due(x.write(0, 0, 64, 3), 4);
            due(x.commit(0, 0), 4);
            due(x.rot(0, 6), 1);
            due(x.rot(1, 6), 2);
            due(x.scrub(6, 1, down), OFF);
            due(x.gone(6), 2);
            due(x.rot(2, 6), MANY);
            due(x.mount(0, 0), 0);
            due(x.gone(6), 2);
            due(x.read(0, 0), 3);
            due(x.scrub(6, 0, down), 2);
            due(x.gone(6), 0);
        }
    }

    private static void scrubWithoutRot() {
        begin("without any that is rotten it does not.)");
        StripeDisk x = new StripeDisk();
        due(x.rot(0, 7), 1);
        due(x.write(0, 0, 1, 1), 4);
        due(x.scrub(6, 1, -1), 0);
        due(x.scrub(2, 1, 0), 0);
        due(x.scrub(11, 0, 0), 0);
        due(x.count(2), 1);
        due(x.lose(0), 1);
        due(x.scrub(7, 1, 0), 0);
        due(x.replace(0), 0);
        due(x.scrub(7, 1, 0), 0);
        due(x.count(1), 4);
    }

    // Promises 12 and 13

    private static void mountAnswersUnits() {
        begin("Mounting: how many units were written in their places by stage 2 (blocks of the group and sums of their rows,"
            + " of disks that are not lost");
        // row 6: sums on disks 2 and 3, blocks 0 and 1; row 7: sums on disks 3 and 0, blocks 2 and 3 on disks 1 and 2
        for (int size = 0; size < 2; size++) {
            for (int lost = -1; lost < 4; lost++) {
                StripeDisk x = new StripeDisk();
                due(x.write(2, 0, 1, 1), 4);
                due(x.write(0, 0, 1, 1), 7);
                if (size == 0) {
                    due(x.write(3, 0, 1, 1), 8);
                }
                due(x.commit(3, 0), OFF);
                int[] units = size == 0 ? new int[] {7, 5, 6, 5, 5} : new int[] {6, 4, 5, 5, 4};
                if (lost >= 0) {
                    due(x.lose(lost), 1);
                }
                due(x.mount(0, 0), units[lost + 1]);
                due(x.read(0, 0), 1);
                due(x.read(2, 0), 1);
                due(x.read(3, 0), size == 0 ? 1 : 0);
            }
        }
    }

    private static void mountLeavesOutUnitsAtTheMark() {
        begin("and, if blank, of rows before their marks)");
        for (int mark = 5; mark <= 12; mark++) {
            StripeDisk x = new StripeDisk();
            due(x.lose(3), 1);
            due(x.replace(3), 0);
            fillUpTo(x, 3, mark);
            // disk 3 has the weighted sum of row 6, the sum of row 7
            due(x.write(0, 0, 1, 1), 4);
            due(x.write(2, 0, 1, 1), 7);
            due(x.commit(3, 0), OFF);
            due(x.mount(0, 0), 4 + (mark > 6 ? 1 : 0) + (mark > 7 ? 1 : 0));
            due(x.write(0, 0, 1, 1), 4);
            due(x.write(2, 0, 1, 1), 7);
            due(x.commit(3, 0), OFF);
            due(x.lose(3), 1);
            due(x.mount(2, 0), OFF);
            due(x.replace(3), 0);
            due(x.mount(0, 0), 4);
        }
        // the mark that the label tells is the one that is counted with
        StripeDisk y = new StripeDisk();
        due(y.lose(3), 1);
        due(y.replace(3), 0);
        fillUpTo(y, 3, 6);
        due(y.fill(3, 2, on(0, ALL)), OFF);
        due(y.mount(0, 0), 0);
        due(y.write(0, 0, 1, 1), 4);
        due(y.commit(2, on(3, ALL)), OFF);
        due(y.mount(0, 0), 3);
    }

    private static void mountIsRefused() {
        begin("BAD: power is on, or stop is not 0 .. 3.");
        StripeDisk x = used();
        String before = seen(x);
        for (int stop : new int[] {LOW, -1, 0, 1, 2, 3, 4, HIGH}) {
            due(x.mount(stop, -1), BAD);
        }
        same(seen(x), before);
        due(x.commit(3, 0), OFF);
        for (int stop : new int[] {LOW, -1, 4, 5, HIGH}) {
            due(x.mount(stop, -1), BAD);
        }
        due(x.count(0), OFF);
        due(x.status(0), -1);
        due(x.status(1), 3);
        due(x.mount(0, 0), 1);
        due(x.mount(0, 0), BAD);
    }

    private static void mountStopTwoWithoutAGroup() {
        begin("(Without stage 2 stop 2 is as 0.)");
        StripeDisk x = used();
        due(x.fail(), 0);
        due(x.mount(2, 0), 0);
        due(x.count(1), 0);
        due(x.replace(0), 0);
        due(x.fill(1, 2, on(2, ALL)), OFF);
        due(x.mount(2, 0), 0);
        due(x.status(1), 4);
        due(x.fail(), 0);
        due(x.mount(2, 0), 0);
        due(x.status(1), 4);
    }

    private static void failWithNothingUnderWay() {
        begin("Power fails: now, with nothing under way: 0.");
        StripeDisk x = used();
        int[] gone = new int[12];
        for (int row = 2; row < 12; row++) {
            gone[row] = x.gone(row);
        }
        due(x.fail(), 0);
        for (int row = 2; row < 12; row++) {
            due(x.gone(row), gone[row]);
        }
        due(x.status(0), -1);
        due(x.status(1), 3);
        due(x.status(2), 12);
        due(x.mount(0, 0), 0);
        due(x.read(0, 0), 77);
        due(x.read(5, 0), 0);
        due(x.count(2), 0);
        due(x.status(1), 3);
    }

    private static void failIsRefused() {
        begin("fail(), while power is off, is OFF");
        StripeDisk x = new StripeDisk();
        due(x.fail(), 0);
        due(x.fail(), OFF);
        due(x.mount(0, 0), 0);
        due(x.fail(), 0);
    }

    // Promises 14 to 17

    private static void checkFits() {
        begin("Whether all stripes fit whose units are all there: how many do not");
        StripeDisk x = laid(8, 40);
        due(x.check(), 0);
        for (int stop = 0; stop < 5; stop++) {
            due(x.write(203, 0, 64, 100 + stop), 4);
            due(x.write(0, 0, 64, 50 + stop), 7);
            due(x.check(), 0);
            due(x.commit(stop, 0x1B1B1B1BL), stop == 0 ? 7 : OFF);
            due(x.check(), stop == 0 ? 0 : OFF);
            due(x.mount(0, 0) < BAD ? 1 : 0, 0);
            due(x.check(), 0);
        }
    }

    private static void checkLeavesOutWhatIsGone() {
        begin("(those with units that are gone are left out)");
        StripeDisk x = used();
        due(x.check(), 0);
        due(x.commit(0, 0), 4);
        due(x.check(), 0);
        StripeDisk y = new StripeDisk();
        due(y.write(0, 0, 64, 9), 4);
        due(y.commit(0, 0), 4);
        due(y.rot(0, 6), 1);
        due(y.rot(2, 6), 2);
        due(y.check(), 0);
        due(y.write(0, 0, 64, 10), 4);
        due(y.commit(0, 0), 4);
        due(y.check(), 0);
        due(y.scrub(6, 0, 0), 2);
        due(y.check(), 0);
    }

    private static void goneIsCounted() {
        begin("How many units of a row of 2 or more are gone.");
        StripeDisk x = used();
        int[] due = {0, 0, 2, 2, 2, 2, 2, 2, 2, 2, 2, 2};
        for (int row = 2; row < 12; row++) {
            due(x.gone(row), due[row]);
        }
        due(x.scrub(2, 0, 0), 1);
        due(x.gone(2), 1);
        fillUpTo(x, 1, 12);
        due(x.gone(2), 1);
        due(x.gone(11), 1);
        due(x.replace(0), 0);
        fillUpTo(x, 0, 11);
        due(x.gone(10), 0);
        due(x.gone(11), 1);
        due(x.rot(0, 10), 1);
        due(x.gone(10), 1);
    }

    private static void goneIsRefused() {
        begin("gone: BAD: no such row.");
        for (int r = 12; r <= 40; r += 28) {
            StripeDisk x = laid(4, r);
            for (int row : new int[] {LOW, -1, 0, 1, r, r + 1, 64, HIGH}) {
                due(x.gone(row), BAD);
            }
            due(x.gone(2), 0);
            due(x.gone(r - 1), 0);
            due(x.fail(), 0);
            due(x.gone(1), BAD);
            due(x.gone(r), BAD);
            due(x.gone(r - 1), 0);
        }
    }

    private static void statusOfADisk() {
        begin("Of a disk: -1 lost, r whole, else its mark.");
        for (int n = 4; n <= 8; n++) {
            StripeDisk x = laid(n, 8 + n);
            due(x.status(0), 8 + n);
            due(x.status(n - 1), 8 + n);
            due(x.lose(n - 1), 1);
            due(x.status(n - 1), -1);
            due(x.replace(n - 1), 0);
            for (int mark = 0; mark < 8 + n; mark++) {
                due(x.status(n - 1), mark);
                due(x.fill(n - 1, 0, 0), mark + 1);
            }
            due(x.status(n - 1), 8 + n);
            due(x.status(0), 8 + n);
        }
    }

    private static void statusWhilePowerIsOff() {
        begin("(While power is off: what it was when power failed, or behind stage 1 of mounting; 0 if the disk was replaced"
            + " since.)");
        StripeDisk x = laid(5, 12);
        due(x.lose(0), 1);
        due(x.replace(0), 0);
        fillUpTo(x, 0, 3);
        due(x.fill(0, 2, ALL_DOWN), OFF);
        due(x.status(0), 3);
        due(x.mount(1, ALL_DOWN), OFF);
        due(x.status(0), 3);
        due(x.mount(3, 0), OFF);
        due(x.status(0), 4);
        due(x.mount(1, 0), OFF);
        due(x.status(0), 4);
        due(x.lose(1), 1);
        due(x.status(1), -1);
        due(x.replace(1), 0);
        due(x.status(1), 0);
        due(x.lose(0), 1);
        due(x.status(0), -1);
        due(x.replace(0), 0);
        due(x.status(0), 0);
        due(x.mount(3, 0), OFF);
        due(x.status(0), 0);
        due(x.status(1), 0);
        due(x.status(2), 12);
    }

    private static void statusIsRefused() {
        begin("MANY: there is no such disk.");
        for (int n = 4; n <= 8; n++) {
            StripeDisk x = laid(n, 12);
            for (int disk : new int[] {LOW, -1, n, n + 1, 9, HIGH}) {
                due(x.status(disk), MANY);
            }
            due(x.status(n - 1), 12);
            due(x.fail(), 0);
            due(x.status(n), MANY);
            due(x.status(-1), MANY);
        }
    }

    private static void countAnswers() {
        begin("0 how many blocks, 1 the group's use (0 without), 2 its blocks, 3 how many disks are lost, 4 how many are blank.");
        StripeDisk x = laid(6, 13);
        int[] empty = {28, 0, 0, 0, 0};
        for (int which = 0; which < 5; which++) {
            due(x.count(which), empty[which]);
        }
        due(x.write(0, 0, 1, 1), 4);
        due(x.write(4, 0, 1, 1), 7);
        due(x.write(3, 0, 1, 1), 8);
        due(x.lose(5), 1);
        due(x.lose(0), 2);
        due(x.replace(0), 0);
        int[] full = {28, 8, 3, 1, 1};
        for (int which = 0; which < 5; which++) {
            due(x.count(which), full[which]);
        }
        due(x.replace(5), 0);
        due(x.count(3), 0);
        due(x.count(4), 2);
        fillUpTo(x, 5, 12);
        due(x.count(4), 2);
        due(x.fill(5, 0, 0), 13);
        due(x.count(4), 1);
        due(x.forget(), 3);
        due(x.count(1), 0);
    }

    private static void countIsRefused() {
        begin("BAD: another number.");
        StripeDisk x = new StripeDisk();
        for (int which : new int[] {LOW, -2, -1, 5, 6, 256, HIGH}) {
            due(x.count(which), BAD);
        }
        due(x.fail(), 0);
        due(x.count(5), OFF);
    }
}
