/** Each promise of the document by hand: ordinary inputs, the edges that it names, and wrong inputs. */
public final class Promises extends Sheet {
    public static void main(String[] args) {
        newObject();
        lay();
        write();
        writeKeepsToTheUse();
        read();
        commit();
        commitStops();
        commitStopsInItsLabels();
        forget();
        lose();
        loseTakesRotAndLabels();
        replace();
        rot();
        fill();
        fillStops();
        scrub();
        mount();
        mountStops();
        mountWritesAgain();
        mountKeepsLabelsApart();
        mountCountsUnits();
        mountFindsReplacedDisks();
        fail();
        check();
        gone();
        status();
        count();
        offBeforeAllElse();
        finish();
    }

    private static void newObject() {
        begin("promise 1");
        StripeDisk x = new StripeDisk();
        due(x.count(0), 12);
        due(x.status(0), 12);
        due(x.status(3), 12);
        due(x.status(4), MANY);
        due(x.gone(11), 0);
        due(x.gone(12), BAD);
        due(x.read(11, 63), 0);
        due(x.count(1), 0);
        due(x.mount(0, 0), BAD);
        due(x.fail(), 0);
        due(x.mount(0, 0), 0);
        due(x.status(2), 12);
    }

    private static void lay() {
        begin("promise 2");
        StripeDisk x = new StripeDisk();
        due(x.lay(4, 12), 12);
        due(x.lay(8, 40), 204);
        due(x.lay(8, 12), 36);
        due(x.lay(4, 40), 68);
        due(x.lay(5, 14), 24);
        due(x.write(3, 0, 64, 9), 4);
        due(x.commit(0, 0), 4);
        due(x.write(4, 0, 64, 9), 4);
        due(x.lose(1), 1);
        due(x.rot(2, 6), 2);
        int[][] bad = {{3, 12}, {9, 12}, {4, 11}, {4, 41}, {0, 0}, {-1, -1}, {LOW, 12}, {4, LOW}, {HIGH, 12}, {4, HIGH}};
        for (int[] one : bad) {
            due(x.lay(one[0], one[1]), BAD);
        }
        due(x.read(3, 0), 9);
        due(x.count(2), 1);
        due(x.count(3), 1);
        due(x.fail(), 0);
        due(x.lay(3, 12), BAD);
        due(x.status(1), -1);
        due(x.read(0, 0), OFF);
        due(x.lay(5, 14), 24);
        due(x.read(3, 0), 0);
        due(x.read(4, 0), 0);
        due(x.count(2), 0);
        due(x.count(3), 0);
        due(x.status(1), 14);
        due(x.gone(6), 0);
        due(x.fail(), 0);
        due(x.mount(0, 0), 0);
        // neither a label nor a group of the disks that were there before comes back
        due(x.write(0, 0, 1, 5), 4);
        due(x.commit(3, 0), OFF);
        due(x.lay(4, 12), 12);
        due(x.fail(), 0);
        due(x.mount(0, 0), 0);
        due(x.read(0, 0), 0);
    }

    private static void write() {
        begin("promise 3");
        StripeDisk x = new StripeDisk();
        due(x.write(5, 10, 3, 255), 4);
        due(x.read(5, 9), 0);
        due(x.read(5, 10), 255);
        due(x.read(5, 12), 255);
        due(x.read(5, 13), 0);
        due(x.write(5, 63, 1, 1), 4);
        due(x.write(5, 0, 64, 0), 4);
        due(x.read(5, 10), 0);
        due(x.write(4, 0, 1, 0), 5);
        due(x.count(2), 2);
        int[][] bad = {
            {-1, 0, 1, 1}, {12, 0, 1, 1}, {LOW, 0, 1, 1}, {HIGH, 0, 1, 1},
            {0, -1, 1, 1}, {0, 64, 1, 1}, {0, LOW, 1, 1}, {0, HIGH, 1, 1}, {0, HIGH, HIGH, 1}, {0, -1, 64, 1},
            {0, 0, 0, 1}, {0, 0, -1, 1}, {0, 0, 65, 1}, {0, 1, 64, 1}, {0, 63, 2, 1}, {0, 5, LOW, 1}, {0, 5, HIGH, 1},
            {0, 0, 1, -1}, {0, 0, 1, 256}, {0, 0, 1, LOW}, {0, 0, 1, HIGH},
        };
        for (int[] one : bad) {
            due(x.write(one[0], one[1], one[2], one[3]), BAD);
        }
        due(x.count(1), 5);
        due(x.read(0, 5), 0);
    }

    private static void writeKeepsToTheUse() {
        begin("promise 3");
        StripeDisk x = new StripeDisk();
        due(x.write(0, 0, 1, 1), 4);
        due(x.write(2, 0, 1, 1), 7);
        due(x.write(4, 0, 1, 1), MANY);
        due(x.read(4, 0), 0);
        due(x.count(1), 7);
        due(x.count(2), 2);
        due(x.write(3, 0, 1, 1), 8);
        due(x.write(1, 0, 1, 1), MANY);
        due(x.write(1, 0, 1, 256), BAD);
        due(x.write(3, 1, 1, 2), 8);
        due(x.commit(0, 0), 8);
        due(x.write(4, 0, 1, 1), 4);
        due(x.write(6, 0, 1, 1), 7);
        due(x.write(5, 0, 1, 1), 8);
        due(x.lay(8, 40), 204);
        for (int block = 0; block < 6; block++) {
            due(x.write(block, 0, 64, block), 4 + block);
        }
        for (int block = 6; block < 12; block++) {
            due(x.write(block, 0, 64, block), 6 + block);
        }
        for (int block = 12; block < 16; block++) {
            due(x.write(block, 0, 64, block), 8 + block);
        }
        due(x.write(16, 0, 64, 1), 24);
        due(x.write(17, 0, 64, 1), MANY);
        due(x.commit(0, 0), 24);
        due(x.read(15, 63), 15);
        due(x.read(16, 63), 1);
        due(x.read(17, 0), 0);
    }

    private static void read() {
        begin("promise 4");
        StripeDisk x = new StripeDisk();
        due(x.write(11, 63, 1, 128), 4);
        due(x.read(11, 63), 128);
        due(x.commit(0, 0), 4);
        due(x.read(11, 63), 128);
        due(x.read(11, 62), 0);
        int[][] bad = {{-1, 0}, {12, 0}, {0, -1}, {0, 64}, {LOW, 0}, {HIGH, 0}, {0, LOW}, {0, HIGH}};
        for (int[] one : bad) {
            due(x.read(one[0], one[1]), BAD);
        }
        // whichever two disks are gone, every block is there
        for (int a = 0; a < 6; a++) {
            for (int b = 0; b < a; b++) {
                due(x.lay(6, 12), 24);
                due(x.write(0, 0, 64, 1), 4);
                due(x.write(5, 0, 64, 2), 7);
                due(x.commit(0, 0), 7);
                due(x.lose(a), 1);
                due(x.lose(b), 2);
                due(x.write(5, 0, 1, 3), 4);
                due(x.commit(0, 0), 4);
                due(x.read(0, 63), 1);
                due(x.read(5, 0), 3);
                due(x.read(5, 1), 2);
                due(x.read(4, 0), 0);
            }
        }
    }

    private static void commit() {
        begin("promise 5");
        StripeDisk x = new StripeDisk();
        for (int stop = 0; stop < 5; stop++) {
            due(x.commit(stop, -1), 0);
        }
        due(x.commit(-1, 0), BAD);
        due(x.commit(5, 0), BAD);
        due(x.commit(LOW, 0), BAD);
        due(x.commit(HIGH, 0), BAD);
        due(x.write(0, 0, 2, 6), 4);
        due(x.commit(5, 0), BAD);
        due(x.count(1), 4);
        due(x.commit(0, -1), 4);
        due(x.count(1), 0);
        due(x.count(2), 0);
        due(x.commit(0, 0), 0);
        due(x.forget(), 0);
        due(x.read(0, 1), 6);
        due(x.fail(), 0);
        due(x.mount(0, 0), 0);
        due(x.read(0, 1), 6);
    }

    private static void commitStops() {
        begin("promise 5");
        for (int stop = 1; stop < 5; stop++) {
            StripeDisk x = new StripeDisk();
            due(x.write(0, 0, 64, 1), 4);
            due(x.commit(0, 0), 4);
            due(x.write(0, 0, 64, 2), 4);
            due(x.write(2, 0, 64, 3), 7);
            due(x.commit(stop, 0), OFF);
            due(x.read(0, 0), OFF);
            due(x.mount(0, 0), stop > 2 ? 6 : 0);
            due(x.count(2), 0);
            due(x.read(0, 0), stop > 2 ? 2 : 1);
            due(x.read(2, 63), stop > 2 ? 3 : 0);
            due(x.check(), 0);
        }
    }

    private static void commitStopsInItsLabels() {
        begin("promise 5");
        for (int disk = 0; disk < 4; disk++) {
            for (int part = 0; part < 4; part++) {
                StripeDisk x = new StripeDisk();
                due(x.write(7, 0, 64, 5), 4);
                due(x.commit(2, on(disk, part)), OFF);
                due(x.mount(0, 0), part == ALL ? 3 : 0);
                due(x.read(7, 7), part == ALL ? 5 : 0);
                due(x.write(7, 0, 64, 6), 4);
                due(x.commit(4, on(disk, part)), OFF);
                due(x.mount(0, 0), part == ALL ? 0 : 3);
                due(x.read(7, 7), 6);
            }
        }
        // units are counted by the disks that are written: without disk 1, the second is disk 2
        StripeDisk x = new StripeDisk();
        due(x.lose(1), 1);
        due(x.write(0, 0, 1, 1), 4);
        due(x.commit(2, on(1, ALL)), OFF);
        due(x.lose(2), 2);
        due(x.mount(0, 0), 0);
        due(x.read(0, 0), 0);
        // a blank disk gets labels, though nothing behind its mark
        due(x.lay(4, 12), 12);
        due(x.lose(0), 1);
        due(x.replace(0), 0);
        due(x.write(0, 0, 1, 1), 4);
        due(x.commit(2, on(0, ALL)), OFF);
        due(x.mount(0, 0), 2);
        due(x.read(0, 0), 1);
    }

    private static void forget() {
        begin("promise 6");
        StripeDisk x = new StripeDisk();
        due(x.forget(), 0);
        due(x.write(0, 0, 64, 1), 4);
        due(x.commit(0, 0), 4);
        due(x.write(0, 0, 64, 2), 4);
        due(x.write(1, 0, 64, 3), 5);
        due(x.write(2, 0, 64, 3), 8);
        due(x.forget(), 3);
        due(x.read(0, 0), 1);
        due(x.read(1, 0), 0);
        due(x.count(1), 0);
        due(x.commit(2, -1), 0);
        due(x.write(0, 0, 1, 9), 4);
        due(x.read(0, 1), 1);
    }

    private static void lose() {
        begin("promise 7");
        StripeDisk x = new StripeDisk();
        for (int disk : new int[] {-1, 4, LOW, HIGH}) {
            due(x.lose(disk), BAD);
        }
        due(x.lose(2), 1);
        due(x.lose(2), BAD);
        due(x.status(2), -1);
        due(x.count(3), 1);
        due(x.lose(0), 2);
        due(x.lose(0), BAD);
        due(x.lose(1), MANY);
        due(x.status(1), 12);
        due(x.replace(0), 0);
        due(x.lose(1), MANY);
        due(x.lose(0), 2);
        due(x.status(0), -1);
        // the group is not on the disks
        due(x.lay(4, 12), 12);
        due(x.write(0, 0, 1, 7), 4);
        due(x.lose(2), 1);
        due(x.read(0, 0), 7);
        due(x.count(2), 1);
        // one row with two that are gone is enough
        due(x.lay(5, 12), 18);
        due(x.rot(0, 11), 1);
        due(x.lose(1), 1);
        due(x.lose(2), MANY);
        due(x.lose(0), 2);
        due(x.lay(5, 12), 18);
        due(x.rot(0, 2), 1);
        due(x.rot(1, 2), 2);
        due(x.lose(2), MANY);
        due(x.fail(), 0);
        due(x.lose(2), MANY);
        due(x.lose(1), 1);
        due(x.lose(0), 2);
    }

    private static void loseTakesRotAndLabels() {
        begin("promise 7");
        StripeDisk x = new StripeDisk();
        due(x.rot(0, 6), 1);
        due(x.rot(1, 6), 2);
        due(x.lose(0), 1);
        due(x.gone(6), 2);
        due(x.gone(7), 1);
        due(x.replace(0), 0);
        for (int row = 0; row < 12; row++) {
            due(x.fill(0, 0, 0), row + 1);
        }
        due(x.gone(6), 1);
        // the label that was on the lost disk alone does not count any more
        due(x.write(0, 0, 1, 1), 4);
        due(x.commit(2, on(3, ALL)), OFF);
        due(x.lose(3), 1);
        due(x.mount(0, 0), 0);
        due(x.read(0, 0), 0);
    }

    private static void replace() {
        begin("promise 8");
        StripeDisk x = new StripeDisk();
        for (int disk : new int[] {-1, 0, 3, 4, LOW, HIGH}) {
            due(x.replace(disk), BAD);
        }
        due(x.lose(3), 1);
        due(x.replace(3), 0);
        due(x.replace(3), BAD);
        due(x.status(3), 0);
        due(x.count(3), 0);
        due(x.count(4), 1);
        due(x.gone(2), 1);
        due(x.gone(11), 1);
        due(x.fail(), 0);
        due(x.mount(0, 0), 0);
        due(x.status(3), 0);
        // while power is off no label says so, but the disk has none
        due(x.fill(3, 0, 0), 1);
        due(x.fail(), 0);
        due(x.lose(3), 1);
        due(x.lose(2), 2);
        due(x.replace(2), 0);
        due(x.status(2), 0);
        due(x.status(3), -1);
        due(x.mount(0, 0), 0);
        due(x.status(2), 0);
        due(x.status(3), -1);
        due(x.count(3), 1);
        due(x.count(4), 1);
        // the label does not touch the group
        due(x.write(1, 0, 1, 1), 4);
        due(x.replace(3), 0);
        due(x.count(1), 4);
        due(x.read(1, 0), 1);
        // the label of replace() says that the journal is empty, and is on the blank disk, too: so the group's label
        // can come there by halves
        due(x.lay(4, 12), 12);
        due(x.write(0, 0, 1, 1), 4);
        due(x.commit(0, 0), 4);
        due(x.lose(0), 1);
        due(x.replace(0), 0);
        due(x.fail(), 0);
        due(x.mount(0, 0), 0);
        due(x.lose(0), 1);
        due(x.replace(0), 0);
        due(x.write(0, 0, 1, 2), 4);
        due(x.commit(2, bits(FIRST, ALL)), OFF);
        due(x.mount(1, on(0, LAST)), OFF);
        due(x.lose(1), 1);
        due(x.mount(0, 0), 2);
        due(x.read(0, 0), 2);
    }

    private static void rot() {
        begin("promise 9");
        StripeDisk x = new StripeDisk();
        int[][] bad = {{-1, 2}, {4, 2}, {0, 0}, {0, 1}, {0, -1}, {0, 12}, {LOW, 2}, {HIGH, 2}, {0, LOW}, {0, HIGH}, {0, 34}};
        for (int[] one : bad) {
            due(x.rot(one[0], one[1]), BAD);
        }
        due(x.write(0, 0, 64, 4), 4);
        due(x.commit(0, 0), 4);
        due(x.rot(0, 6), 1);
        due(x.rot(0, 6), BAD);
        due(x.rot(0, 7), 1);
        due(x.rot(3, 6), 2);
        due(x.rot(1, 6), MANY);
        due(x.rot(3, 6), BAD);
        due(x.gone(6), 2);
        due(x.gone(7), 1);
        due(x.gone(8), 0);
        due(x.read(0, 0), 4);
        // writing does not mend
        due(x.write(0, 0, 64, 5), 4);
        due(x.write(1, 0, 64, 6), 5);
        due(x.commit(0, 0), 5);
        due(x.gone(6), 2);
        due(x.read(0, 0), 5);
        due(x.read(1, 0), 6);
        due(x.fail(), 0);
        due(x.rot(1, 11), 1);
        due(x.rot(1, 2), 1);
        due(x.mount(0, 0), 0);
        due(x.gone(6), 2);
        due(x.gone(11), 1);
        // units of lost disks, and behind marks, are gone
        due(x.lay(4, 12), 12);
        due(x.lose(0), 1);
        due(x.rot(0, 5), BAD);
        due(x.replace(0), 0);
        due(x.fill(0, 0, 0), 1);
        due(x.fill(0, 0, 0), 2);
        due(x.fill(0, 0, 0), 3);
        due(x.rot(0, 3), BAD);
        due(x.rot(0, 2), 1);
        due(x.rot(1, 3), 2);
        due(x.rot(2, 3), MANY);
        due(x.rot(0, 3), BAD);
    }

    private static void fill() {
        begin("promise 10");
        StripeDisk x = new StripeDisk();
        for (int disk : new int[] {-1, 0, 4, LOW, HIGH}) {
            due(x.fill(disk, 0, 0), BAD);
        }
        due(x.lose(0), 1);
        due(x.fill(0, 0, 0), BAD);
        due(x.fill(0, 1, 0), BAD);
        due(x.replace(0), 0);
        for (int stop : new int[] {-1, 3, LOW, HIGH}) {
            due(x.fill(0, stop, 0), BAD);
        }
        due(x.write(0, 0, 64, 8), 4);
        due(x.commit(0, 0), 4);
        due(x.write(1, 0, 64, 9), 4);
        for (int row = 0; row < 12; row++) {
            due(x.gone(11), 1);
            due(x.status(0), row);
            due(x.fill(0, 0, -1), row + 1);
        }
        due(x.status(0), 12);
        due(x.count(4), 0);
        due(x.fill(0, 0, 0), BAD);
        due(x.gone(11), 0);
        due(x.count(1), 4);
        due(x.commit(0, 0), 4);
        due(x.lose(2), 1);
        due(x.lose(1), 2);
        due(x.read(0, 0), 8);
        due(x.read(1, 0), 9);
    }

    private static void fillStops() {
        begin("promise 10");
        StripeDisk x = new StripeDisk();
        due(x.lose(2), 1);
        due(x.replace(2), 0);
        for (int row = 0; row < 12; row++) {
            due(x.write(0, 0, 1, 1), 4);
            due(x.fill(2, 1, -1), OFF);
            due(x.status(2), row);
            due(x.mount(0, 0), 0);
            due(x.status(2), row);
            due(x.count(2), 0);
            due(x.fill(2, 2, bits(FIRST, LAST, NONE, FIRST)), OFF);
            due(x.mount(0, 0), 0);
            due(x.status(2), row);
            due(x.fill(2, 2, on(2, ALL)), OFF);
            due(x.status(2), row);
            due(x.mount(1, 0), OFF);
            due(x.status(2), row);
            due(x.mount(3, 0), OFF);
            due(x.status(2), row + 1);
            due(x.mount(1, 0), OFF);
            due(x.status(2), row + 1);
            due(x.mount(0, 0), 0);
            due(x.status(2), row + 1);
        }
        due(x.count(4), 0);
        due(x.lose(0), 1);
        due(x.lose(1), 2);
        // the mark is lost with the only disk that has its label
        due(x.lay(5, 12), 18);
        due(x.lose(2), 1);
        due(x.replace(2), 0);
        due(x.fill(2, 0, 0), 1);
        due(x.fill(2, 2, on(4, ALL)), OFF);
        due(x.lose(4), 1);
        due(x.mount(0, 0), 0);
        due(x.status(2), 1);
    }

    private static void scrub() {
        begin("promise 11");
        StripeDisk x = new StripeDisk();
        int[][] bad = {{1, 0}, {0, 0}, {-1, 0}, {12, 0}, {LOW, 0}, {HIGH, 0}, {6, -1}, {6, 2}, {6, LOW}, {6, HIGH}};
        for (int[] one : bad) {
            due(x.scrub(one[0], one[1], 0), BAD);
        }
        due(x.scrub(2, 0, 0), 0);
        due(x.scrub(11, 1, -1), 0);
        due(x.count(0), 12);
        due(x.write(0, 0, 64, 4), 4);
        due(x.commit(0, 0), 4);
        due(x.rot(0, 6), 1);
        due(x.rot(1, 6), 2);
        due(x.rot(1, 7), 1);
        due(x.scrub(6, 2, 0), BAD);
        due(x.write(0, 0, 1, 5), 4);
        due(x.scrub(6, 1, -1), OFF);
        due(x.gone(6), 2);
        due(x.mount(0, 0), 0);
        due(x.gone(6), 2);
        due(x.count(2), 0);
        due(x.scrub(6, 0, 0), 2);
        due(x.gone(6), 0);
        due(x.gone(7), 1);
        due(x.scrub(6, 0, 0), 0);
        due(x.read(0, 0), 4);
        // units that are gone with their disk are not rotten
        due(x.lose(3), 1);
        due(x.rot(0, 7), MANY);
        due(x.scrub(7, 0, 0), 1);
        due(x.gone(7), 1);
        due(x.scrub(7, 1, 0), 0);
        due(x.count(3), 1);
    }

    private static void mount() {
        begin("promise 12");
        StripeDisk x = new StripeDisk();
        due(x.mount(0, 0), BAD);
        due(x.mount(1, 0), BAD);
        due(x.mount(4, 0), BAD);
        due(x.write(0, 0, 1, 1), 4);
        due(x.fail(), 0);
        for (int stop : new int[] {-1, 4, LOW, HIGH}) {
            due(x.mount(stop, -1), BAD);
        }
        due(x.read(0, 0), OFF);
        due(x.mount(2, -1), 0);
        due(x.read(0, 0), 0);
        due(x.count(2), 0);
        due(x.mount(0, 0), BAD);
    }

    private static void mountStops() {
        begin("promise 12");
        StripeDisk x = new StripeDisk();
        due(x.write(0, 0, 64, 1), 4);
        due(x.write(1, 0, 64, 2), 5);
        due(x.commit(3, 0x1B1B1B1BL), OFF);
        due(x.mount(1, 0), OFF);
        due(x.mount(1, -1), OFF);
        due(x.mount(2, 0), OFF);
        due(x.mount(2, -1), OFF);
        due(x.mount(3, 0), OFF);
        due(x.mount(3, bits(FIRST, LAST, FIRST, LAST)), OFF);
        due(x.read(0, 0), OFF);
        due(x.mount(0, 0), 4);
        due(x.read(0, 0), 1);
        due(x.read(1, 0), 2);
        due(x.check(), 0);
        // once the label of stage 3 is down on one disk, the journal is empty
        due(x.write(0, 0, 64, 3), 4);
        due(x.commit(3, 0), OFF);
        due(x.mount(3, on(2, ALL)), OFF);
        due(x.mount(2, 0), 0);
        due(x.read(0, 0), 3);
        due(x.write(0, 0, 64, 4), 4);
        due(x.commit(3, 0), OFF);
        due(x.mount(3, on(2, ALL)), OFF);
        due(x.lose(2), 1);
        due(x.mount(2, 0), OFF);
        due(x.mount(0, 0), 2);
        due(x.read(0, 0), 4);
    }

    private static void mountWritesAgain() {
        begin("promise 12");
        // the label goes from disk 1 to disk 3 by stage 1, and disk 1 may go
        StripeDisk x = new StripeDisk();
        due(x.write(0, 0, 1, 1), 4);
        due(x.commit(2, on(1, ALL)), OFF);
        due(x.mount(1, on(3, ALL)), OFF);
        due(x.lose(1), 1);
        due(x.mount(0, 0), 3);
        due(x.read(0, 0), 1);
        // its halves may come at two times
        due(x.lay(4, 12), 12);
        due(x.write(0, 0, 1, 1), 4);
        due(x.commit(2, bits(NONE, ALL, NONE, FIRST)), OFF);
        due(x.mount(1, bits(NONE, LAST, NONE, LAST)), OFF);
        due(x.lose(1), 1);
        due(x.mount(0, 0), 3);
        due(x.read(0, 0), 1);
        // the same half twice is no label
        due(x.lay(4, 12), 12);
        due(x.write(0, 0, 1, 1), 4);
        due(x.commit(2, bits(NONE, ALL, NONE, FIRST)), OFF);
        due(x.mount(1, bits(NONE, NONE, NONE, FIRST)), OFF);
        due(x.lose(1), 1);
        due(x.mount(0, 0), 0);
        due(x.read(0, 0), 0);
        // a disk without any label is not written in stage 1: the second unit is that of disk 2
        due(x.lay(4, 12), 12);
        due(x.write(0, 0, 1, 1), 4);
        due(x.commit(2, on(0, ALL)), OFF);
        due(x.lose(1), 1);
        due(x.replace(1), 0);
        due(x.mount(1, on(1, ALL)), OFF);
        due(x.lose(0), 1);
        due(x.mount(0, 0), 2);
        due(x.read(0, 0), 1);
        due(x.status(1), 0);
    }

    private static void mountKeepsLabelsApart() {
        begin("promise 12");
        // half of the group's label and half of the next one are none
        StripeDisk x = new StripeDisk();
        due(x.write(0, 0, 1, 1), 4);
        due(x.commit(2, on(0, FIRST)), OFF);
        due(x.mount(3, on(0, LAST)), OFF);
        due(x.mount(0, 0), 0);
        due(x.read(0, 0), 0);
        // nor are halves of two new labels, though they tell the same
        due(x.write(0, 0, 1, 2), 4);
        due(x.commit(4, on(0, FIRST)), OFF);
        due(x.mount(3, on(0, LAST)), OFF);
        due(x.mount(3, on(0, FIRST)), OFF);
        due(x.mount(0, 0), 3);
        due(x.read(0, 0), 2);
        // a torn new label leaves the one that counts
        due(x.write(0, 0, 1, 3), 4);
        due(x.commit(2, bits(FIRST, LAST, FIRST, LAST)), OFF);
        due(x.mount(3, bits(FIRST, LAST, FIRST, LAST)), OFF);
        due(x.mount(1, bits(FIRST, LAST, FIRST, LAST)), OFF);
        due(x.mount(0, 0), 0);
        due(x.read(0, 0), 2);
        due(x.status(0), 12);
        due(x.status(3), 12);
    }

    private static void mountCountsUnits() {
        begin("promise 12");
        // row 6 of four disks: sums on disks 2 and 3, blocks 0 and 1 on disks 0 and 1
        int[] units = {2, 3, 2, 2};
        for (int disk = 0; disk < 4; disk++) {
            StripeDisk x = new StripeDisk();
            due(x.write(1, 0, 1, 1), 4);
            due(x.write(0, 0, 1, 1), 5);
            due(x.commit(3, 0), OFF);
            due(x.rot((disk + 1) % 4, 6), 1);
            due(x.lose(disk), 1);
            due(x.mount(0, 0), 3);
            due(x.lay(4, 12), 12);
            due(x.write(0, 0, 1, 1), 4);
            due(x.commit(3, 0), OFF);
            due(x.lose(disk), 1);
            due(x.mount(0, 0), units[disk]);
            due(x.read(0, 0), 1);
        }
        // a blank disk takes units before its mark alone
        StripeDisk x = new StripeDisk();
        due(x.lose(0), 1);
        due(x.replace(0), 0);
        for (int row = 0; row < 7; row++) {
            due(x.fill(0, 0, 0), row + 1);
        }
        // row 7: sums on disks 3 and 0, blocks 2 and 3 on disks 1 and 2
        due(x.write(0, 0, 1, 1), 4);
        due(x.write(2, 0, 1, 1), 7);
        due(x.commit(3, 0), OFF);
        due(x.mount(0, 0), 5);
        due(x.fill(0, 0, 0), 8);
        due(x.write(0, 0, 1, 2), 4);
        due(x.write(2, 0, 1, 2), 7);
        due(x.commit(3, 0), OFF);
        due(x.mount(0, 0), 6);
        due(x.write(0, 0, 1, 3), 4);
        due(x.commit(3, 0), OFF);
        due(x.lose(0), 1);
        due(x.replace(0), 0);
        due(x.mount(0, 0), 2);
        due(x.read(0, 0), 3);
    }

    private static void mountFindsReplacedDisks() {
        begin("promise 12");
        // the label tells that disk 0 was whole, but the new disk has none
        StripeDisk x = new StripeDisk();
        due(x.fail(), 0);
        due(x.lose(0), 1);
        due(x.lose(1), 2);
        due(x.replace(0), 0);
        due(x.mount(3, bits(FIRST, ALL)), OFF);
        due(x.status(0), 0);
        due(x.replace(1), 0);
        due(x.mount(3, bits(ALL, NONE, NONE, NONE)), OFF);
        due(x.status(1), 0);
        due(x.mount(1, -1), OFF);
        due(x.mount(0, 0), 0);
        due(x.status(0), 0);
        due(x.status(1), 0);
        due(x.status(2), 12);
        due(x.count(4), 2);
        due(x.fill(0, 0, 0), 1);
        due(x.fail(), 0);
        due(x.mount(0, 0), 0);
        due(x.status(0), 1);
        due(x.status(1), 0);
    }

    private static void fail() {
        begin("promise 13");
        StripeDisk x = new StripeDisk();
        due(x.write(0, 0, 1, 1), 4);
        due(x.commit(0, 0), 4);
        due(x.write(0, 0, 1, 2), 4);
        due(x.fail(), 0);
        due(x.fail(), OFF);
        due(x.mount(0, 0), 0);
        due(x.read(0, 0), 1);
        due(x.count(1), 0);
    }

    private static void check() {
        begin("promise 14");
        StripeDisk x = new StripeDisk();
        due(x.check(), 0);
        due(x.write(0, 0, 64, 77), 4);
        due(x.check(), 0);
        due(x.commit(3, 0x33L), OFF);
        due(x.check(), OFF);
        due(x.mount(0, 0), 3);
        due(x.check(), 0);
        due(x.rot(0, 6), 1);
        due(x.check(), 0);
        due(x.lose(1), 1);
        due(x.check(), 0);
    }

    private static void gone() {
        begin("promise 15");
        StripeDisk x = new StripeDisk();
        for (int row : new int[] {-1, 0, 1, 12, LOW, HIGH}) {
            due(x.gone(row), BAD);
        }
        due(x.gone(2), 0);
        due(x.rot(1, 2), 1);
        due(x.lose(0), 1);
        due(x.gone(2), 2);
        due(x.gone(3), 1);
        due(x.replace(0), 0);
        due(x.gone(2), 2);
        due(x.fill(0, 0, 0), 1);
        due(x.fill(0, 0, 0), 2);
        due(x.gone(2), 2);
        due(x.fill(0, 2, on(3, ALL)), OFF);
        due(x.gone(2), 2);
        due(x.gone(13), BAD);
        due(x.mount(3, 0), OFF);
        due(x.gone(2), 1);
        due(x.gone(3), 1);
        due(x.lay(4, 40), 68);
        due(x.rot(3, 39), 1);
        due(x.rot(3, 32), 1);
        due(x.gone(39), 1);
        due(x.gone(32), 1);
        due(x.gone(7), 0);
        due(x.gone(38), 0);
    }

    private static void status() {
        begin("promise 16");
        StripeDisk x = new StripeDisk();
        for (int disk : new int[] {-1, 4, LOW, HIGH}) {
            due(x.status(disk), MANY);
        }
        due(x.lay(8, 40), 204);
        due(x.status(7), 40);
        due(x.lose(7), 1);
        due(x.status(7), -1);
        due(x.replace(7), 0);
        due(x.status(7), 0);
        due(x.fill(7, 0, 0), 1);
        due(x.status(7), 1);
        due(x.fail(), 0);
        due(x.status(7), 1);
        due(x.status(8), MANY);
        due(x.status(-1), MANY);
        due(x.lose(7), 1);
        due(x.status(7), -1);
        due(x.replace(7), 0);
        due(x.status(7), 0);
        due(x.status(6), 40);
    }

    private static void count() {
        begin("promise 17");
        StripeDisk x = new StripeDisk();
        for (int which : new int[] {-1, 5, LOW, HIGH}) {
            due(x.count(which), BAD);
        }
        due(x.lay(6, 13), 28);
        due(x.count(0), 28);
        due(x.count(1), 0);
        due(x.write(0, 0, 1, 1), 4);
        due(x.write(3, 0, 1, 1), 5);
        due(x.write(4, 0, 1, 1), 8);
        due(x.count(1), 8);
        due(x.count(2), 3);
        due(x.lose(0), 1);
        due(x.lose(5), 2);
        due(x.count(3), 2);
        due(x.count(4), 0);
        due(x.replace(5), 0);
        due(x.count(3), 1);
        due(x.count(4), 1);
    }

    private static void offBeforeAllElse() {
        begin("promise 13");
        StripeDisk x = new StripeDisk();
        due(x.rot(0, 6), 1);
        due(x.fail(), 0);
        due(x.write(0, 0, 1, 1), OFF);
        due(x.write(-1, 0, 1, 1), OFF);
        due(x.read(0, 0), OFF);
        due(x.read(0, 64), OFF);
        due(x.commit(0, 0), OFF);
        due(x.commit(5, 0), OFF);
        due(x.forget(), OFF);
        due(x.fill(0, 0, 0), OFF);
        due(x.fill(9, 9, 0), OFF);
        due(x.scrub(6, 0, 0), OFF);
        due(x.scrub(0, 0, 0), OFF);
        due(x.fail(), OFF);
        due(x.check(), OFF);
        due(x.count(0), OFF);
        due(x.count(9), OFF);
        due(x.gone(6), 1);
        due(x.status(0), 12);
        due(x.lose(0), 1);
        due(x.replace(0), 0);
        due(x.rot(1, 6), 2);
        due(x.mount(0, 0), 0);
        due(StripeDisk.BAD, BAD);
        due(StripeDisk.OFF, OFF);
        due(StripeDisk.MANY, MANY);
    }
}
