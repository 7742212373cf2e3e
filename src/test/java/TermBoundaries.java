/**
 * A test of its own for each sentence under 'Terms' that names a boundary case: the first and the last one, empty, full,
 * behind the last one, at the mark, refused. The sentence stands in each test and is printed when it is broken.
 */
public final class TermBoundaries extends Sheet {
    public static void main(String[] args) {
        places();
        units();
        groups();
        stopping();
        labels();
        mounting();
        finish();
    }

    private static void places() {
        usedFor512Calls();
        disksAndRowsHaveEnds();
        labelsJournalAndStripesBegin();
        journalLacksTwo();
        unitsGoRoundBehindTheLastDisk();
        blocksHaveAnEnd();
    }

    private static void units() {
        markIsZeroAtFirst();
        lostUnitsAreGone();
        unitsAtTheMarkAreGone();
        rottenUnitsAreGone();
        rottenUntilScrubbed();
        rottenUntilLost();
        rottenThoughWritten();
        neverThreeGone();
    }

    private static void groups() {
        groupHoldsWhatWasWritten();
        useOfAGroup();
        useIsLimited();
        groupIsKeptBehindTheLastStage();
        stagesAreDownOneByOne();
        labelsTellMarks();
    }

    private static void stopping() {
        stopIsAStage();
        bitsTellWhatIsDown();
        bitsBehindTheLastUnit();
        lostDisksAreNotWritten();
        blankDisksHaveLabels();
        stagesOneAndThreeDoNotMatter();
        noGroupWhenPowerFails();
        labelsGoByTheNumbersOfDisks();
        someAnswerWhilePowerIsOff();
        othersAreOffBeforeAllElse();
    }

    private static void labels() {
        halvesAreNoLabel();
        halvesComeAtTwoTimes();
        halvesOfTwoLabelsAreNone();
        halvesNeedAnotherLabelMeanwhile();
        labelIsLostWithItsDisk();
        labelIsDownOnAllDisks();
        latestLabelCounts();
        thereAlwaysIsALabel();
        theLabelThatCountsStays();
        theLabelWrittenLastStays();
    }

    private static void mounting() {
        labelIsWrittenAgain();
        labelIsNotWrittenWhereThereIsNone();
        marksAreThoseOfTheLabel();
        marksAreZeroWithoutALabel();
        marksStayBeforeStageOneIsDown();
        noStageTwoWithoutAGroup();
        newLabelIsOnAllDisks();
        nowIsWhatIsKept();
        stageTwoMayBeginOften();
        groupWithoutALabelIsLost();
    }

    // What it is

    private static void usedFor512Calls() {
        begin("An object is used for at most 512 calls after it has been made");
        StripeDisk x = new StripeDisk();
        for (int round = 0; round < 128; round++) {
            int v = 255 - round;
            due(x.write(11, 0, 64, v), 4);
            boolean kept = round % 2 == 0;
            due(x.commit(2, kept ? on(3, ALL) : TORN), OFF);
            due(x.mount(0, 0), kept ? 3 : 0);
            due(x.read(11, 63), kept ? v : v + 1);
        }
    }

    // Terms

    private static void disksAndRowsHaveEnds() {
        begin("DISKS are 0 .. n - 1, each with a UNIT of 64 bytes in each row 0 .. r - 1.");
        for (int n = 4; n <= 8; n++) {
            for (int r : new int[] {12, 13, 39, 40}) {
                StripeDisk x = laid(n, r);
                due(x.status(0), r);
                due(x.status(n - 1), r);
                due(x.status(n), MANY);
                due(x.status(-1), MANY);
                due(x.rot(0, r - 1), 1);
                due(x.rot(n - 1, r - 1), 2);
                due(x.rot(n, r - 1), BAD);
                due(x.rot(0, r), BAD);
                due(x.gone(r - 1), 2);
                due(x.gone(r), BAD);
                due(x.read(0, 63), 0);
                due(x.read(0, 64), BAD);
            }
        }
    }

    private static void labelsJournalAndStripesBegin() {
        begin("Rows 0 and 1 have LABELS, rows 2 to 5 the JOURNAL, all others are STRIPES");
        StripeDisk x = new StripeDisk();
        due(x.rot(0, 1), BAD);
        due(x.rot(0, 2), 1);
        due(x.rot(0, 5), 1);
        due(x.rot(0, 6), 1);
        // rows of the journal hold no block: a disk filled up to row 6 takes no unit of block 0, one more row and it does
        for (int row = 5; row < 8; row++) {
            StripeDisk y = new StripeDisk();
            due(y.lose(0), 1);
            due(y.replace(0), 0);
            fillUpTo(y, 0, row);
            due(y.write(0, 0, 1, 1), 4);
            due(y.commit(3, 0), OFF);
            due(y.mount(0, 0), row < 7 ? 2 : 3);
        }
    }

    private static void journalLacksTwo() {
        begin("it can be read as long as no row lacks more than two");
        StripeDisk x = new StripeDisk();
        due(x.write(0, 0, 64, 1), 4);
        due(x.write(2, 0, 64, 2), 7);
        due(x.write(1, 0, 64, 3), 8);
        due(x.commit(3, 0), OFF);
        for (int row = 2; row < 6; row++) {
            due(x.rot(row % 4, row), 1);
            due(x.rot((row + row / 4 + 1) % 4, row), 2);
            due(x.rot((row + 3) % 4, row), MANY);
        }
        due(x.mount(0, 0), 7);
        due(x.read(0, 0), 1);
        due(x.read(2, 0), 2);
        due(x.read(1, 63), 3);
        for (int a = 0; a < 4; a++) {
            for (int b = 0; b < a; b++) {
                StripeDisk y = new StripeDisk();
                due(y.write(3, 0, 64, 9), 4);
                due(y.commit(3, 0), OFF);
                due(y.lose(a), 1);
                due(y.lose(b), 2);
                // row 7: sums on disks 3 and 0, block 3 on disk 2
                due(y.mount(0, 0), a == 1 || b == 1 ? 2 : 1);
                due(y.read(3, 0), 9);
            }
        }
    }

    private static void unitsGoRoundBehindTheLastDisk() {
        begin("row t has its sum on disk t modulo n, its weighted sum on the next one, and n - 2 data units on those behind,"
            + " one by one (behind the last disk comes disk 0)");
        for (int n = 4; n <= 8; n++) {
            for (int block = 0; block < (n - 2) * n; block++) {
                int row = 6 + block / (n - 2);
                int data = (row + 2 + block % (n - 2)) % n;
                for (int disk = 0; disk < n; disk++) {
                    StripeDisk x = laid(n, 14);
                    due(x.write(block, 0, 1, 1), 4);
                    due(x.commit(3, 0), OFF);
                    due(x.lose(disk), 1);
                    boolean missed = disk == row % n || disk == (row + 1) % n || disk == data;
                    due(x.mount(0, 0), missed ? 2 : 3);
                    due(x.read(block, 0), 1);
                }
            }
        }
    }

    private static void blocksHaveAnEnd() {
        begin("BLOCK b is the data unit b modulo n - 2 of row 6 + b / (n - 2); there are (n - 2) (r - 6) blocks.");
        for (int n = 4; n <= 8; n++) {
            for (int r = 12; r <= 40; r++) {
                StripeDisk x = laid(n, r);
                int last = (n - 2) * (r - 6) - 1;
                due(x.count(0), last + 1);
                due(x.write(last + 1, 0, 1, 1), BAD);
                due(x.read(last + 1, 0), BAD);
                due(x.write(last, 0, 1, 1), 4);
                due(x.read(last, 0), 1);
                // the last row begins n - 3 blocks before, and there is none in it of the row before
                due(x.write(last - (n - 3), 0, 1, 2), 5);
                due(x.write(last - (n - 2), 0, 1, 3), 8);
                due(x.read(last - (n - 2), 0), 3);
            }
        }
    }

    private static void markIsZeroAtFirst() {
        begin("BLANK: then it is filled up to a row, its MARK (0 at first)");
        StripeDisk x = new StripeDisk();
        due(x.lose(3), 1);
        due(x.count(4), 0);
        due(x.replace(3), 0);
        due(x.status(3), 0);
        due(x.count(4), 1);
        due(x.gone(2), 1);
        due(x.fill(3, 0, 0), 1);
        due(x.lose(3), 1);
        due(x.replace(3), 0);
        due(x.status(3), 0);
    }

    private static void lostUnitsAreGone() {
        begin("A unit of row 2 or more is GONE, if its disk is lost");
        StripeDisk x = laid(5, 40);
        due(x.lose(0), 1);
        for (int row = 2; row < 40; row++) {
            due(x.gone(row), 1);
        }
        due(x.lose(4), 2);
        for (int row = 2; row < 40; row++) {
            due(x.gone(row), 2);
        }
    }

    private static void unitsAtTheMarkAreGone() {
        begin("if its disk is blank, and its row not before the mark");
        StripeDisk x = new StripeDisk();
        due(x.lose(1), 1);
        due(x.replace(1), 0);
        for (int mark = 0; mark <= 12; mark++) {
            due(x.status(1), mark);
            for (int row = 2; row < 12; row++) {
                due(x.gone(row), row < mark ? 0 : 1);
            }
            due(x.fill(1, 0, 0), mark < 12 ? mark + 1 : BAD);
        }
    }

    private static void rottenUnitsAreGone() {
        begin("or if it is ROTTEN");
        StripeDisk x = laid(8, 40);
        for (int row = 2; row < 40; row++) {
            due(x.gone(row), 0);
            due(x.rot(row % 8, row), 1);
            due(x.gone(row), 1);
            due(x.rot((row + 5) % 8, row), 2);
            due(x.gone(row), 2);
        }
    }

    private static void rottenUntilScrubbed() {
        begin("ROTTEN (until scrub()");
        StripeDisk x = laid(4, 40);
        for (int row : new int[] {2, 7, 31, 32, 33, 39}) {
            due(x.rot(2, row), 1);
        }
        for (int row : new int[] {2, 7, 31, 32, 33, 39}) {
            due(x.gone(row), 1);
            due(x.scrub(row, 0, 0), 1);
            due(x.gone(row), 0);
            due(x.rot(2, row), 1);
        }
    }

    private static void rottenUntilLost() {
        begin("or until its disk is lost");
        StripeDisk x = new StripeDisk();
        due(x.rot(0, 2), 1);
        due(x.rot(0, 11), 1);
        due(x.rot(1, 11), 2);
        due(x.lose(0), 1);
        due(x.gone(11), 2);
        due(x.replace(0), 0);
        fillUpTo(x, 0, 12);
        due(x.gone(2), 0);
        due(x.gone(11), 1);
        due(x.scrub(2, 0, 0), 0);
        due(x.scrub(11, 0, 0), 1);
    }

    private static void rottenThoughWritten() {
        begin("what is written there in the meantime does not mend it");
        StripeDisk x = new StripeDisk();
        due(x.rot(0, 6), 1);
        due(x.rot(2, 6), 2);
        due(x.rot(0, 2), 1);
        due(x.write(0, 0, 64, 1), 4);
        due(x.commit(0, 0), 4);
        due(x.gone(6), 2);
        due(x.gone(2), 1);
        due(x.write(0, 0, 64, 2), 4);
        due(x.commit(3, -1), OFF);
        due(x.gone(6), 2);
        due(x.mount(0, 0), 3);
        due(x.gone(6), 2);
        due(x.gone(2), 1);
        due(x.read(0, 0), 2);
        due(x.scrub(6, 0, 0), 2);
        due(x.read(0, 0), 2);
    }

    private static void neverThreeGone() {
        begin("No row may have more than two units that are gone.");
        // one lost, one filled up to row 7: a third may rot before row 7 alone
        StripeDisk x = laid(5, 12);
        due(x.lose(0), 1);
        due(x.replace(0), 0);
        fillUpTo(x, 0, 7);
        due(x.lose(1), 1);
        due(x.rot(2, 6), 2);
        due(x.rot(3, 6), MANY);
        due(x.rot(2, 7), MANY);
        due(x.lose(2), MANY);
        due(x.fill(0, 0, 0), 8);
        due(x.rot(2, 7), 2);
        due(x.gone(6), 2);
        due(x.gone(7), 2);
        // two blank disks, filled up to row 11 and row 12 of 12: the one row left decides
        StripeDisk y = laid(5, 12);
        due(y.lose(0), 1);
        due(y.lose(1), 2);
        due(y.replace(0), 0);
        due(y.replace(1), 0);
        fillUpTo(y, 0, 11);
        fillUpTo(y, 1, 11);
        due(y.lose(2), MANY);
        due(y.fill(1, 0, 0), 12);
        due(y.lose(2), 1);
        due(y.lose(1), MANY);
        due(y.fill(0, 0, 0), 12);
        due(y.lose(1), 2);
    }

    private static void groupHoldsWhatWasWritten() {
        begin("THE GROUP are the blocks in which bytes were written since the last commit");
        StripeDisk x = new StripeDisk();
        due(x.count(2), 0);
        due(x.write(0, 0, 1, 0), 4);
        due(x.count(2), 1);
        due(x.write(0, 1, 1, 0), 4);
        due(x.count(2), 1);
        due(x.commit(0, 0), 4);
        due(x.count(2), 0);
        due(x.write(1, 63, 1, 0), 4);
        due(x.count(2), 1);
    }

    private static void useOfAGroup() {
        begin("its USE is 1, and its blocks, and 2 for each row in which some of them lie");
        StripeDisk x = laid(8, 12);
        due(x.count(1), 0);
        due(x.write(5, 0, 1, 1), 4);
        due(x.write(6, 0, 1, 1), 7);
        due(x.write(0, 0, 1, 1), 8);
        due(x.write(11, 0, 1, 1), 9);
        due(x.write(12, 0, 1, 1), 12);
        due(x.write(5, 0, 64, 9), 12);
        due(x.count(1), 12);
        due(x.count(2), 5);
    }

    private static void useIsLimited() {
        begin("it is never above 4 (n - 2)");
        // for each n blocks that make a use of 4 (n - 2) to the point, then blocks that are too many
        int[][] full = {
            {0, 2, 3}, {0, 3, 6, 1, 4}, {0, 4, 8, 12, 15, 3, 2}, {0, 5, 10, 15, 16, 17, 18, 19, 1, 2, 3},
            {0, 6, 12, 18, 24, 30, 31, 32, 33, 34, 1},
        };
        int[] other = {1, 2, 1, 4, 2};
        int[] otherRow = {4, 9, 16, 20, 35};
        for (int n = 4; n <= 8; n++) {
            StripeDisk x = laid(n, 12);
            for (int block : full[n - 4]) {
                due(x.write(block, 0, 64, 200 + block % 50) > 3 ? 1 : 0, 1);
            }
            due(x.count(1), 4 * (n - 2));
            due(x.write(other[n - 4], 0, 1, 1), MANY);
            due(x.write(otherRow[n - 4], 0, 1, 1), MANY);
            due(x.count(1), 4 * (n - 2));
            due(x.count(2), full[n - 4].length);
            due(x.write(full[n - 4][0], 5, 1, 7), 4 * (n - 2));
            due(x.commit(2, on(n - 1, ALL)), OFF);
            due(x.mount(0, 0), 4 * (n - 2) - 1);
            for (int block : full[n - 4]) {
                due(x.read(block, 63), 200 + block % 50);
            }
            due(x.read(full[n - 4][0], 5), 7);
            due(x.read(other[n - 4], 0), 0);
        }
    }

    private static void groupIsKeptBehindTheLastStage() {
        begin("Behind the last stage the group is kept, and there is none.");
        StripeDisk x = new StripeDisk();
        due(x.write(0, 0, 64, 1), 4);
        due(x.commit(0, 0), 4);
        due(x.count(1), 0);
        due(x.count(2), 0);
        due(x.forget(), 0);
        due(x.read(0, 0), 1);
        due(x.fail(), 0);
        due(x.mount(0, 0), 0);
        due(x.read(0, 63), 1);
    }

    private static void stagesAreDownOneByOne() {
        begin("Each stage is down before the next one begins.");
        for (int stop = 1; stop < 5; stop++) {
            StripeDisk x = new StripeDisk();
            due(x.write(0, 0, 64, 1), 4);
            due(x.commit(stop, 0), OFF);
            // the label of stage 2 is on all disks in stages 3 and 4: the last two are enough
            due(x.lose(0), 1);
            due(x.lose(1), 2);
            due(x.mount(0, 0), stop > 2 ? 2 : 0);
            due(x.read(0, 0), stop > 2 ? 1 : 0);
        }
    }

    private static void labelsTellMarks() {
        begin("Labels tell the marks of all disks, too.");
        StripeDisk x = new StripeDisk();
        due(x.lose(1), 1);
        due(x.replace(1), 0);
        due(x.lose(2), 1);
        due(x.replace(2), 0);
        fillUpTo(x, 1, 12);
        fillUpTo(x, 2, 11);
        // both labels of a commit do, though torn or wholly down
        for (int stop = 2; stop < 5; stop++) {
            due(x.write(0, 0, 1, 1), 4);
            due(x.commit(stop, on(0, ALL)), OFF);
            due(x.mount(0, 0) < 0 ? 1 : 0, 0);
            due(x.status(1), 12);
            due(x.status(2), 11);
            due(x.status(0), 12);
        }
    }

    private static void stopIsAStage() {
        begin("A call that writes has a number stop: 0 to go through; or the stage in which power fails:"
            + " then all that this stage writes is UNDER WAY, in order, and it answers OFF.");
        for (int stop = 0; stop < 5; stop++) {
            StripeDisk x = new StripeDisk();
            due(x.write(0, 0, 1, 1), 4);
            due(x.commit(stop, 0), stop == 0 ? 4 : OFF);
            due(x.count(0), stop == 0 ? 12 : OFF);
        }
        for (int stop = 0; stop < 3; stop++) {
            StripeDisk x = new StripeDisk();
            due(x.lose(0), 1);
            due(x.replace(0), 0);
            due(x.fill(0, stop, 0), stop == 0 ? 1 : OFF);
            due(x.count(0), stop == 0 ? 12 : OFF);
        }
        for (int stop = 0; stop < 2; stop++) {
            StripeDisk x = new StripeDisk();
            due(x.rot(0, 2), 1);
            due(x.scrub(2, stop, 0), stop == 0 ? 1 : OFF);
            due(x.count(0), stop == 0 ? 12 : OFF);
        }
        for (int stop = 0; stop < 4; stop++) {
            StripeDisk x = new StripeDisk();
            due(x.write(0, 0, 1, 1), 4);
            due(x.commit(3, 0), OFF);
            due(x.mount(stop, 0), stop == 0 ? 3 : OFF);
            due(x.count(0), stop == 0 ? 12 : OFF);
        }
    }

    private static void bitsTellWhatIsDown() {
        begin("Bits tell of each unit under way, two for each, the lowest ones first (0 behind the 32nd), what is down of it:"
            + " 0 nothing, 1 all, 2 the first 32 bytes, 3 the last 32.");
        for (int disk = 0; disk < 8; disk++) {
            for (int part = 0; part < 4; part++) {
                StripeDisk x = laid(8, 12);
                due(x.write(0, 0, 1, 1), 4);
                due(x.commit(2, on(disk, part)), OFF);
                due(x.mount(0, 0), part == ALL ? 3 : 0);
                // of two parts that come to this disk one by one, 2 and 3 are all, and none of them is by itself
                for (int next = 0; next < 4; next++) {
                    StripeDisk y = laid(8, 12);
                    int other = (disk + 3) % 8;
                    due(y.write(0, 0, 1, 1), 4);
                    due(y.commit(2, on(disk, part) | on(other, ALL)), OFF);
                    due(y.mount(1, on(disk, next)), OFF);
                    due(y.lose(other), 1);
                    boolean down = part == ALL || next == ALL || part + next == FIRST + LAST && part > ALL && next > ALL;
                    due(y.mount(0, 0) > 0 ? 1 : 0, down ? 1 : 0);
                    due(y.read(0, 0), down ? 1 : 0);
                }
            }
        }
    }

    private static void bitsBehindTheLastUnit() {
        begin("the lowest ones first (0 behind the 32nd)");
        for (int n = 4; n <= 8; n++) {
            // bits of units that are not under way tell nothing
            StripeDisk x = laid(n, 12);
            due(x.write(0, 0, 1, 1), 4);
            due(x.commit(2, -1L << 2 * n), OFF);
            due(x.mount(1, ALL_DOWN << 2 * n), OFF);
            due(x.mount(0, 0), 0);
            due(x.read(0, 0), 0);
            due(x.write(0, 0, 1, 1), 4);
            due(x.commit(4, ALL_DOWN << 2 * n), OFF);
            due(x.mount(3, ALL_DOWN << 2 * n), OFF);
            due(x.mount(0, 0), 3);
            due(x.read(0, 0), 1);
        }
    }

    private static void lostDisksAreNotWritten() {
        begin("Units of lost disks, and of blank ones behind their marks, but for labels, are not written");
        // what was written while disk 0 was lost, or behind its mark, comes there by filling alone
        StripeDisk x = new StripeDisk();
        due(x.lose(0), 1);
        due(x.write(0, 0, 64, 5), 4);
        due(x.commit(3, 0), OFF);
        due(x.mount(0, 0), 2);
        due(x.replace(0), 0);
        due(x.write(1, 0, 64, 6), 4);
        due(x.commit(3, 0), OFF);
        due(x.mount(0, 0), 3);
        due(x.write(0, 0, 1, 7), 4);
        due(x.commit(3, 0), OFF);
        due(x.mount(0, 0), 2);
        fillUpTo(x, 0, 12);
        due(x.lose(2), 1);
        due(x.lose(3), 2);
        due(x.read(0, 0), 7);
        due(x.read(0, 1), 5);
        due(x.read(1, 0), 6);
        // nor is a label on a lost disk: the other three are the units 0 to 2, and there is no fourth
        StripeDisk y = new StripeDisk();
        due(y.lose(0), 1);
        due(y.write(0, 0, 1, 1), 4);
        due(y.commit(2, on(3, ALL)), OFF);
        due(y.mount(0, 0), 0);
        due(y.read(0, 0), 0);
    }

    private static void blankDisksHaveLabels() {
        begin("of blank ones behind their marks, but for labels, are not written");
        for (int mark = 0; mark < 3; mark++) {
            StripeDisk x = new StripeDisk();
            due(x.lose(0), 1);
            due(x.replace(0), 0);
            fillUpTo(x, 0, mark);
            due(x.write(0, 0, 1, 1), 4);
            due(x.commit(2, on(0, ALL)), OFF);
            due(x.mount(3, on(1, FIRST)), OFF);
            due(x.mount(0, 0), 2);
            due(x.read(0, 0), 1);
            due(x.status(0), mark);
        }
    }

    private static void stagesOneAndThreeDoNotMatter() {
        begin("what is down in stages 1 and 3 does not matter for what is told");
        for (long bits : new long[] {0, -1, 1, ALL_DOWN, 0xAAAAAAAAAAAAAAAAL, TORN, Long.MIN_VALUE, Long.MAX_VALUE}) {
            StripeDisk x = laid(8, 12);
            due(x.write(0, 0, 64, 1), 4);
            due(x.write(7, 0, 64, 2), 7);
            due(x.commit(0, 0), 7);
            due(x.write(0, 0, 64, 3), 4);
            due(x.commit(1, bits), OFF);
            due(x.mount(0, 0), 0);
            due(x.read(0, 0), 1);
            due(x.write(0, 0, 64, 4), 4);
            due(x.write(7, 0, 64, 5), 7);
            due(x.commit(3, bits), OFF);
            due(x.mount(2, bits), OFF);
            due(x.mount(0, 0), 6);
            due(x.read(0, 63), 4);
            due(x.read(7, 0), 5);
            due(x.check(), 0);
            due(x.rot(0, 6), 1);
            due(x.scrub(6, 1, bits), OFF);
            due(x.mount(0, bits), 0);
            due(x.read(0, 63), 4);
            due(x.check(), 0);
        }
    }

    private static void noGroupWhenPowerFails() {
        begin("When power fails there is no group any more.");
        for (int how = 0; how < 8; how++) {
            StripeDisk x = new StripeDisk();
            due(x.rot(1, 6), 1);
            due(x.lose(0), 1);
            due(x.replace(0), 0);
            due(x.write(1, 0, 1, 1), 4);
            if (how == 0) {
                due(x.fail(), 0);
            } else if (how < 5) {
                due(x.commit(how, 0), OFF);
            } else if (how < 7) {
                due(x.fill(0, how - 4, 0), OFF);
            } else {
                due(x.scrub(6, 1, 0), OFF);
            }
            boolean kept = how == 3 || how == 4;
            due(x.mount(0, 0), kept ? 3 : 0);
            due(x.count(1), 0);
            due(x.count(2), 0);
            due(x.commit(0, 0), 0);
            due(x.forget(), 0);
            due(x.read(1, 0), kept ? 1 : 0);
        }
    }

    private static void labelsGoByTheNumbersOfDisks() {
        begin("A label that is under way is so by the numbers of the disks on which it is written.");
        // without one disk, the others are the units in order: the label is lost with that disk, and with no other
        for (int lost = 0; lost < 5; lost++) {
            for (int unit = 0; unit < 4; unit++) {
                for (int other = 0; other < 4; other++) {
                    StripeDisk x = laid(5, 12);
                    due(x.lose(lost), 1);
                    due(x.write(0, 0, 1, 1), 4);
                    due(x.commit(2, on(unit, ALL)), OFF);
                    due(x.lose(other < lost ? other : other + 1), 2);
                    due(x.mount(0, 0) > 0 ? 1 : 0, other == unit ? 0 : 1);
                    due(x.read(0, 0), other == unit ? 0 : 1);
                }
            }
        }
        // without two disks of five there are three units, whichever disks they are
        for (int a = 0; a < 5; a++) {
            for (int b = 0; b < a; b++) {
                for (int unit = 0; unit < 5; unit++) {
                    StripeDisk x = laid(5, 12);
                    due(x.lose(a), 1);
                    due(x.lose(b), 2);
                    due(x.write(0, 0, 1, 1), 4);
                    due(x.commit(2, on(unit, ALL)), OFF);
                    due(x.mount(0, 0) > 0 ? 1 : 0, unit < 3 ? 1 : 0);
                }
            }
        }
    }

    private static void someAnswerWhilePowerIsOff() {
        begin("While power is off only lay(), lose(), replace(), rot(), gone(), status() and mount() answer");
        StripeDisk x = new StripeDisk();
        due(x.fail(), 0);
        due(x.gone(2), 0);
        due(x.gone(1), BAD);
        due(x.status(3), 12);
        due(x.status(4), MANY);
        due(x.rot(0, 2), 1);
        due(x.rot(0, 2), BAD);
        due(x.rot(0, 12), BAD);
        due(x.rot(1, 2), 2);
        due(x.rot(2, 2), MANY);
        due(x.lose(2), MANY);
        due(x.lose(4), BAD);
        due(x.lose(0), 1);
        due(x.lose(0), BAD);
        due(x.replace(1), BAD);
        due(x.replace(0), 0);
        due(x.replace(0), BAD);
        due(x.mount(4, 0), BAD);
        due(x.mount(1, 0), OFF);
        due(x.lay(9, 12), BAD);
        due(x.lay(4, 12), 12);
        due(x.count(0), 12);
    }

    private static void othersAreOffBeforeAllElse() {
        begin("all others are OFF, before all else");
        StripeDisk x = new StripeDisk();
        due(x.fail(), 0);
        for (int odd : new int[] {LOW, -1, 0, 1, 2, 5, 12, 64, 65, 256, HIGH}) {
            due(x.write(odd, odd, odd, odd), OFF);
            due(x.read(odd, odd), OFF);
            due(x.commit(odd, odd), OFF);
            due(x.fill(odd, odd, odd), OFF);
            due(x.scrub(odd, odd, odd), OFF);
            due(x.count(odd), OFF);
        }
        due(x.forget(), OFF);
        due(x.fail(), OFF);
        due(x.check(), OFF);
        due(x.mount(0, 0), 0);
        due(x.count(0), 12);
    }

    // Terms: labels

    private static void halvesAreNoLabel() {
        begin("A disk HAS a label, if it is wholly down on it");
        StripeDisk x = new StripeDisk();
        due(x.write(0, 0, 1, 1), 4);
        due(x.commit(2, TORN), OFF);
        due(x.mount(0, 0), 0);
        due(x.read(0, 0), 0);
        due(x.write(0, 0, 1, 2), 4);
        due(x.commit(2, TORN & ~3L | ALL), OFF);
        due(x.mount(0, 0), 3);
        due(x.read(0, 0), 2);
    }

    private static void halvesComeAtTwoTimes() {
        begin("its halves may come at two times, as the same label is written again, if it has another one meanwhile");
        for (int first = FIRST; first <= LAST; first++) {
            for (int second = FIRST; second <= LAST; second++) {
                StripeDisk x = new StripeDisk();
                due(x.write(0, 0, 1, 1), 4);
                due(x.commit(2, bits(ALL, NONE, first)), OFF);
                due(x.mount(1, 0), OFF);
                due(x.mount(1, bits(NONE, NONE, second)), OFF);
                due(x.lose(0), 1);
                due(x.mount(0, 0), first == second ? 0 : 2);
                due(x.read(0, 0), first == second ? 0 : 1);
            }
        }
    }

    private static void halvesOfTwoLabelsAreNone() {
        begin("as the same label is written again");
        // commit's last label and mount's, then mount's and mount's: each is a new one
        StripeDisk x = new StripeDisk();
        due(x.write(0, 0, 1, 1), 4);
        due(x.commit(4, on(0, FIRST)), OFF);
        due(x.mount(3, on(0, LAST)), OFF);
        due(x.mount(0, 0), 3);
        due(x.write(0, 0, 1, 2), 4);
        due(x.commit(3, 0), OFF);
        due(x.mount(3, on(1, FIRST)), OFF);
        due(x.mount(3, on(1, LAST)), OFF);
        due(x.mount(0, 0), 3);
        // a label of a group and the next one that says that the journal is empty
        due(x.write(0, 0, 1, 3), 4);
        due(x.commit(2, on(2, FIRST)), OFF);
        due(x.mount(3, on(2, LAST)), OFF);
        due(x.mount(0, 0), 0);
        due(x.read(0, 0), 2);
        // labels of two groups
        due(x.write(0, 0, 1, 4), 4);
        due(x.commit(2, on(3, FIRST)), OFF);
        due(x.lose(0), 1);
        due(x.mount(0, 0), 0);
        due(x.write(0, 0, 1, 5), 4);
        due(x.commit(2, on(2, LAST)), OFF);
        due(x.mount(0, 0), 0);
        due(x.read(0, 0), 2);
        // a label of a mark and the next one
        due(x.replace(0), 0);
        due(x.fill(0, 2, on(1, FIRST)), OFF);
        due(x.mount(3, on(1, LAST)), OFF);
        due(x.mount(0, 0), 0);
        due(x.status(0), 0);
    }

    private static void halvesNeedAnotherLabelMeanwhile() {
        begin("if it has another one meanwhile");
        // disk 0 has no label but for a half: the same label is not written there again, unit 0 is that of disk 1
        StripeDisk x = new StripeDisk();
        due(x.write(0, 0, 1, 1), 4);
        due(x.commit(3, 0), OFF);
        due(x.lose(0), 1);
        due(x.replace(0), 0);
        due(x.mount(3, bits(FIRST, ALL)), OFF);
        due(x.mount(1, bits(LAST)), OFF);
        due(x.lose(1), 1);
        due(x.mount(0, 0), 2);
        due(x.read(0, 0), 1);
    }

    private static void labelIsLostWithItsDisk() {
        begin("and the disk was not lost since");
        for (int disk = 0; disk < 4; disk++) {
            StripeDisk x = new StripeDisk();
            due(x.write(0, 0, 1, 1), 4);
            due(x.commit(2, on(disk, ALL)), OFF);
            due(x.lose(disk), 1);
            due(x.replace(disk), 0);
            due(x.mount(0, 0), 0);
            due(x.read(0, 0), 0);
        }
    }

    private static void labelIsDownOnAllDisks() {
        begin("(A label is wholly down on all disks on which it is written, if its stage is gone through.)");
        for (int a = 0; a < 5; a++) {
            for (int b = 0; b < a; b++) {
                // the label of a group, of a mark, and the one that mounting writes again
                StripeDisk x = laid(5, 12);
                due(x.write(0, 0, 1, 1), 4);
                due(x.commit(3, 0), OFF);
                due(x.lose(a), 1);
                due(x.lose(b), 2);
                due(x.mount(0, 0) > 0 ? 1 : 0, 1);
                due(x.read(0, 0), 1);
                StripeDisk y = laid(5, 12);
                due(y.write(0, 0, 1, 1), 4);
                due(y.commit(2, on(a, ALL)), OFF);
                due(y.mount(2, 0), OFF);
                due(y.lose(a), 1);
                due(y.lose(b), 2);
                due(y.mount(0, 0) > 0 ? 1 : 0, 1);
                due(y.read(0, 0), 1);
                StripeDisk z = laid(5, 12);
                due(z.lose(a), 1);
                due(z.replace(a), 0);
                fillUpTo(z, a, 1);
                due(z.fail(), 0);
                due(z.lose(b), 1);
                due(z.mount(0, 0), 0);
                due(z.status(a), 1);
            }
        }
    }

    private static void latestLabelCounts() {
        begin("THE LABEL THAT COUNTS is the latest one that some disk has");
        for (int disk = 0; disk < 4; disk++) {
            StripeDisk x = new StripeDisk();
            for (int round = 1; round < 4; round++) {
                due(x.write(0, 0, 1, round), 4);
                due(x.commit(2, on(disk, ALL)), OFF);
                due(x.mount(3, on(3 - disk, ALL)), OFF);
                due(x.mount(0, 0), 0);
                due(x.read(0, 0), round);
                due(x.write(0, 0, 1, 9), 4);
                due(x.commit(1, 0), OFF);
                due(x.mount(0, 0), 0);
                due(x.read(0, 0), round);
            }
        }
    }

    private static void thereAlwaysIsALabel() {
        begin("(there always is one)");
        // whichever two disks are lost and replaced, and however often, before and between torn labels
        for (int a = 0; a < 4; a++) {
            for (int b = 0; b < 4; b++) {
                StripeDisk x = new StripeDisk();
                due(x.write(0, 0, 1, 1), 4);
                due(x.commit(3, 0), OFF);
                for (int round = 0; round < 3; round++) {
                    due(x.lose(a), 1);
                    due(x.replace(a), 0);
                    due(x.mount(3, TORN), OFF);
                    if (b != a) {
                        due(x.lose(b), 1);
                        due(x.mount(3, TORN), OFF);
                        due(x.replace(b), 0);
                    }
                }
                due(x.mount(0, 0) > 0 ? 1 : 0, 1);
                due(x.read(0, 0), 1);
                due(x.status(a), 0);
                due(x.status(b), 0);
            }
        }
    }

    private static void theLabelThatCountsStays() {
        begin("A new label goes to that one of rows 0 and 1 where the one that counts does not lie, so that this stays.");
        // the group's label counts, whole disks or one alone have it, and is left by torn ones
        for (long down : new long[] {on(0, ALL), on(3, ALL), bits(ALL, ALL, ALL, ALL)}) {
            StripeDisk x = new StripeDisk();
            due(x.write(0, 0, 1, 1), 4);
            due(x.commit(2, down), OFF);
            due(x.mount(3, TORN), OFF);
            due(x.mount(3, OTHER_HALVES), OFF);
            due(x.mount(1, TORN), OFF);
            due(x.mount(0, 0), 3);
            due(x.read(0, 0), 1);
            // then the label of mounting counts, one disk has it, and the next torn one goes where the group's was
            due(x.write(0, 0, 1, 2), 4);
            due(x.commit(3, 0), OFF);
            due(x.mount(3, on(2, ALL)), OFF);
            due(x.mount(3, TORN), OFF);
            due(x.mount(0, 0), 0);
            due(x.read(0, 0), 2);
        }
    }

    private static void theLabelWrittenLastStays() {
        begin("A new label goes to that one of rows 0 and 1 where the one that was written wholly last does not lie,"
            + " so that this stays.");
        StripeDisk x = new StripeDisk();
        due(x.lose(2), 1);
        due(x.replace(2), 0);
        for (int mark = 1; mark < 12; mark++) {
            // odd and even numbers of labels between two failures
            due(x.fill(2, 0, 0), mark);
            for (int i = 0; i < mark % 3; i++) {
                due(x.write(0, 0, 1, mark), 4);
                due(x.commit(0, 0), 4);
            }
            if (mark % 2 == 0) {
                due(x.lose(0), 1);
                due(x.replace(0), 0);
            }
            if (mark % 2 == 0) {
                due(x.fill(2, 2, TORN), OFF);
            } else {
                due(x.write(0, 0, 1, 99), 4);
                due(x.commit(2, TORN), OFF);
            }
            due(x.mount(3, TORN), OFF);
            due(x.mount(0, 0), 0);
            due(x.status(2), mark);
            due(x.status(1), 12);
            due(x.read(0, 0), mark - (mark % 3 == 0 ? 1 : 0));
        }
    }

    // Terms: mounting

    private static void labelIsWrittenAgain() {
        begin("1 this label is written again, on all disks that have some label");
        for (int from = 0; from < 4; from++) {
            for (int to = 0; to < 4; to++) {
                StripeDisk x = new StripeDisk();
                due(x.write(0, 0, 1, 1), 4);
                due(x.commit(2, on(from, ALL)), OFF);
                due(x.mount(1, on(to, ALL)), OFF);
                due(x.lose(from), 1);
                due(x.mount(0, 0) > 0 ? 1 : 0, from == to ? 0 : 1);
                due(x.read(0, 0), from == to ? 0 : 1);
            }
        }
    }

    private static void labelIsNotWrittenWhereThereIsNone() {
        begin("on all disks that have some label");
        // the label tells that disk 0 is filled up to row 12: that must not hold of its replacement
        StripeDisk x = new StripeDisk();
        due(x.fail(), 0);
        due(x.lose(0), 1);
        due(x.replace(0), 0);
        for (int stop = 1; stop < 4; stop += 2) {
            due(x.mount(stop, stop == 1 ? -1 : 0), OFF);
            due(x.mount(1, ALL_DOWN), OFF);
            due(x.status(0), 0);
        }
        due(x.mount(0, 0), 0);
        due(x.status(0), 0);
        due(x.gone(2), 1);
        // and units are counted without it
        StripeDisk y = new StripeDisk();
        due(y.write(0, 0, 1, 1), 4);
        due(y.commit(2, on(3, ALL)), OFF);
        due(y.lose(0), 1);
        due(y.replace(0), 0);
        due(y.mount(1, on(0, ALL)), OFF);
        due(y.lose(3), 1);
        due(y.mount(0, 0), 1);
        due(y.read(0, 0), 1);
    }

    private static void marksAreThoseOfTheLabel() {
        begin("behind this stage marks are those that it tells");
        for (int mark = 0; mark < 12; mark++) {
            for (int stop = 0; stop < 4; stop += 3) {
                StripeDisk x = new StripeDisk();
                due(x.lose(0), 1);
                due(x.replace(0), 0);
                fillUpTo(x, 0, mark);
                due(x.fill(0, 2, on(3, ALL)), OFF);
                due(x.status(0), mark);
                due(x.mount(stop, 0), stop == 0 ? 0 : OFF);
                due(x.status(0), mark + 1);
                due(x.gone(11), mark + 1 < 12 ? 1 : 0);
                // the label is on all disks by then: the mark does not go back with the disk that had it first
                due(x.lose(3), 1);
                due(x.mount(0, 0), stop == 0 ? BAD : 0);
                due(x.status(0), mark + 1);
                due(x.status(1), 12);
            }
        }
    }

    private static void marksAreZeroWithoutALabel() {
        begin("0 for a disk that has no label at all");
        StripeDisk x = new StripeDisk();
        due(x.lose(1), 1);
        due(x.replace(1), 0);
        fillUpTo(x, 1, 12);
        due(x.write(0, 0, 1, 1), 4);
        due(x.commit(3, 0), OFF);
        due(x.lose(1), 1);
        due(x.replace(1), 0);
        due(x.mount(2, 0), OFF);
        due(x.status(1), 0);
        // with a half of the new label it still has none
        due(x.mount(3, bits(ALL, LAST)), OFF);
        due(x.status(1), 0);
        due(x.mount(0, 0), 0);
        due(x.status(1), 0);
        due(x.status(0), 12);
        due(x.fill(1, 0, 0), 1);
    }

    private static void marksStayBeforeStageOneIsDown() {
        begin("(before, and when power fails in it, they are what they were when power failed)");
        for (long down : new long[] {0, TORN, ALL_DOWN}) {
            StripeDisk x = new StripeDisk();
            due(x.lose(0), 1);
            due(x.replace(0), 0);
            fillUpTo(x, 0, 6);
            due(x.fill(0, 2, ALL_DOWN), OFF);
            due(x.status(0), 6);
            due(x.gone(6), 1);
            due(x.mount(1, down), OFF);
            due(x.status(0), 6);
            due(x.gone(6), 1);
            due(x.rot(0, 6), BAD);
            due(x.rot(1, 6), 2);
            due(x.lose(2), MANY);
            due(x.mount(3, 0), OFF);
            due(x.status(0), 7);
            due(x.gone(6), 1);
            due(x.rot(0, 6), 2);
        }
    }

    private static void noStageTwoWithoutAGroup() {
        begin("2 if it says that the journal is written, the group in it is written in its places (otherwise there is no such"
            + " stage)");
        StripeDisk x = new StripeDisk();
        due(x.write(0, 0, 64, 1), 4);
        due(x.commit(0, 0), 4);
        due(x.fail(), 0);
        due(x.mount(2, 0), 0);
        due(x.write(0, 0, 64, 2), 4);
        due(x.commit(2, TORN), OFF);
        due(x.mount(2, -1), 0);
        due(x.read(0, 0), 1);
        due(x.write(0, 0, 64, 3), 4);
        due(x.commit(4, on(0, ALL)), OFF);
        due(x.mount(2, 0), 0);
        due(x.read(0, 0), 3);
        due(x.write(0, 0, 64, 4), 4);
        due(x.commit(4, TORN), OFF);
        due(x.mount(2, -1), OFF);
        due(x.mount(0, 0), 3);
        due(x.read(0, 0), 4);
    }

    private static void newLabelIsOnAllDisks() {
        begin("3 a new label, with these marks, that says that the journal is empty, is written on all disks that are not lost");
        // also on the one that had none: it has this one alone, and it counts
        StripeDisk x = new StripeDisk();
        due(x.lose(3), 1);
        due(x.write(0, 0, 1, 1), 4);
        due(x.commit(3, 0), OFF);
        due(x.lose(0), 2);
        due(x.replace(0), 0);
        due(x.mount(3, on(0, ALL)), OFF);
        due(x.mount(2, 0), 0);
        due(x.read(0, 0), 1);
        due(x.status(0), 0);
        due(x.status(3), -1);
        // not on the lost one: units are those of disks 0, 1 and 2
        due(x.write(0, 0, 1, 2), 4);
        due(x.commit(3, 0), OFF);
        due(x.mount(3, on(3, ALL)), OFF);
        due(x.mount(2, 0), OFF);
        due(x.mount(0, 0), 1);
        // its marks: those of the label that counted
        due(x.fill(0, 2, on(2, ALL)), OFF);
        due(x.mount(3, on(1, ALL)), OFF);
        due(x.mount(0, 0), 0);
        due(x.status(0), 1);
        due(x.fail(), 0);
        due(x.mount(0, 0), 0);
        due(x.status(0), 1);
    }

    private static void nowIsWhatIsKept() {
        begin("Then power is on, and now are the blocks as they are kept: with the group, if stage 2 came.");
        for (int disk = -1; disk < 4; disk++) {
            StripeDisk x = new StripeDisk();
            due(x.write(0, 0, 2, 1), 4);
            due(x.commit(0, 0), 4);
            due(x.write(0, 1, 2, 2), 4);
            due(x.write(11, 63, 1, 2), 7);
            due(x.commit(2, disk < 0 ? 0 : on(disk, ALL)), OFF);
            due(x.mount(0, 0), disk < 0 ? 0 : 6);
            due(x.read(0, 0), 1);
            due(x.read(0, 1), disk < 0 ? 1 : 2);
            due(x.read(0, 2), disk < 0 ? 0 : 2);
            due(x.read(11, 63), disk < 0 ? 0 : 2);
            due(x.count(0), 12);
        }
    }

    private static void stageTwoMayBeginOften() {
        begin("(What stage 2 writes is the same, however often it is begun");
        StripeDisk x = new StripeDisk();
        due(x.write(0, 0, 64, 1), 4);
        due(x.write(2, 0, 64, 2), 7);
        due(x.commit(3, 0x6666), OFF);
        for (int i = 0; i < 20; i++) {
            due(x.mount(2, TORN + i), OFF);
            due(x.mount(3, TORN), OFF);
        }
        due(x.mount(0, 0), 6);
        due(x.read(0, 0), 1);
        due(x.read(2, 63), 2);
        due(x.read(1, 0), 0);
        due(x.check(), 0);
    }

    private static void groupWithoutALabelIsLost() {
        begin("a group whose label does not count is lost.)");
        StripeDisk x = new StripeDisk();
        due(x.write(0, 0, 64, 1), 4);
        due(x.commit(2, TORN), OFF);
        due(x.mount(0, 0), 0);
        due(x.read(0, 0), 0);
        due(x.fail(), 0);
        due(x.mount(0, 0), 0);
        due(x.read(0, 0), 0);
        // its journal is not taken for that of the next group
        due(x.write(2, 0, 64, 2), 4);
        due(x.commit(2, on(1, ALL)), OFF);
        due(x.mount(0, 0), 3);
        due(x.read(0, 0), 0);
        due(x.read(2, 0), 2);
        // nor is one that was written in stage 1 alone
        due(x.write(0, 0, 64, 3), 4);
        due(x.commit(1, ALL_DOWN), OFF);
        due(x.mount(0, 0), 0);
        due(x.read(0, 0), 0);
    }
}
