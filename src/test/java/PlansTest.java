/** Promises 31 to 38: what would be; nothing is changed. */
public final class PlansTest {
    public static void main(String[] args) {
        misses();
        fits();
        freeIn();
        freeInEdges();
        leastWorn();
        commonest();
        shares();
        digest();
        Check.end("PlansTest");
    }

    private static void misses() {
        BusyChip chip = new BusyChip();
        Check.index("31: misses(-1)", chip, () -> chip.misses(-1));
        Check.index("31: misses(256)", chip, () -> chip.misses(256));
        Check.same("31: nothing is loaded", 0, chip.misses(0));
        Check.writeWholly(chip, 248, 0, 15, 255);
        Check.load(chip, 255, 15, 16);
        Check.same("31: at the same cells", 1, chip.misses(248));
        Check.same("31: round the page", 2, chip.misses(255));
        Check.same("31: at the next cell", 1, chip.misses(249));
        Check.same("31: another page", 0, chip.misses(0));
        Check.load(chip, 0, 0, 0, 0, 0, 0);
        Check.same("31: of several values the last one", 0, chip.misses(248));
        Check.load(chip, 16);
        Check.same("31: 10 values", 1, chip.misses(248));
        Check.lockWholly(chip, 4, 0);
        Check.same("31: locks do not matter", 1, chip.misses(248));
    }

    private static void fits() {
        BusyChip chip = new BusyChip();
        Check.same("32: nothing is loaded", 0, chip.fits());
        chip.set(0, 1);
        Check.writeWholly(chip, 0, 0, 0, 0, 0, 0, 0, 0, 0);
        Check.writeWholly(chip, 8, 1, 255, 3, 0, 0, 0, 0, 0);
        Check.load(chip, 2, 1);
        Check.same("32: the lowest cell", 9, chip.fits());
        chip.unload();
        Check.load(chip, 1, 1);
        Check.same("32: a lower one", 8, chip.fits());
        chip.unload();
        Check.load(chip, 3, 3);
        Check.same("32: the first that fits", 9, chip.fits());
        Check.lockWholly(chip, 2, 0);
        Check.same("32: not in locked sectors", 64, chip.fits());
        Check.lockWholly(chip, 4, 0);
        Check.same("32: all are locked", BusyChip.NONE, chip.fits());
        BusyChip full = new BusyChip();
        full.set(0, 1);
        full.set(2, 1);
        for (int sector = 0; sector < 8; sector++) {
            full.arm();
            full.erase(sector);
            full.pass(4);
            full.cut();
        }
        full.load(128);
        Check.same("32: nowhere", BusyChip.NONE, full.fits());
        full.unload();
        full.load(0);
        Check.same("32: zeros fit", 0, full.fits());
        Check.eraseWholly(full, 7);
        full.unload();
        full.load(128);
        Check.same("32: the last sector", 224, full.fits());
    }

    private static void freeIn() {
        BusyChip chip = new BusyChip();
        Check.same("33: it is so now", 0, chip.freeIn());
        chip.post(1, 0, 5);
        Check.same("33: an erase that waits", 24, chip.freeIn());
        Check.load(chip, 1, 2);
        chip.post(0, 100, 5);
        Check.same("33: both", 28, chip.freeIn());
        chip.pass(10);
        Check.same("33: it comes nearer", 18, chip.freeIn());
        Check.load(chip, 3, 4);
        chip.post(0, 108, 9);
        chip.pass(1);
        Check.same("33: set aside by the clerk", 21, chip.freeIn());
        chip.pass(3);
        Check.same("33: it is still set aside", 18, chip.freeIn());
        Check.same("33: ticks in which some work goes on", 18, chip.pass(100));
        Check.same("33: now it is so", 0, chip.freeIn());
        chip.arm();
        chip.lock(1, 1);
        Check.same("33: a change of the locks", 5, chip.freeIn());
        chip.post(1, 7, 3);
        Check.same("33: an order whose sector gets locked", 5, chip.freeIn());
        chip.pass(5);
        Check.same("33: an order for a locked sector", 0, chip.freeIn());
        chip.arm();
        chip.lock(0, 1);
        Check.same("33: which gets free", 29, chip.freeIn());
    }

    private static void freeInEdges() {
        BusyChip chip = new BusyChip();
        chip.arm();
        chip.erase(0);
        chip.suspend();
        Check.same("33: set aside by hand", 0, chip.freeIn());
        chip.post(1, 0, 0);
        Check.same("33: an order waits behind it for ever", BusyChip.NONE, chip.freeIn());
        chip.resume();
        Check.same("33: it goes on", 48, chip.freeIn());
        BusyChip clerks = new BusyChip();
        clerks.post(1, 0, 0);
        clerks.pass(4);
        clerks.load(1);
        clerks.post(0, 255, 9);
        clerks.pass(2);
        Check.same("33: the clerk has set an erase aside, and no more waits", 20, clerks.freeIn());
        BusyChip long1 = new BusyChip();
        long1.set(1, 96);
        for (int i = 0; i < 10; i++) {
            long1.post(1, i % 8, 0);
        }
        Check.same("33: 1000 ticks", 1000, long1.freeIn());
        long1.set(1, 97);
        Check.same("33: 1010 ticks", BusyChip.NONE, long1.freeIn());
        long1.pass(10);
        Check.same("33: 1000 of 1010 ticks", 1000, long1.freeIn());
        long1.load(1);
        Check.same("33: what is loaded does not matter", 1000, long1.freeIn());
        long1.set(1, 98);
        Check.same("33: the settings do", BusyChip.NONE, long1.freeIn());
        BusyChip one = new BusyChip();
        one.set(1, 96);
        for (int i = 0; i < 10; i++) {
            one.post(1, i % 8, 0);
        }
        one.pass(1);
        one.set(0, 2);
        one.load(1);
        one.post(0, 255, 0);
        Check.same("33: 1001 ticks", BusyChip.NONE, one.freeIn());
        one.pass(1);
        Check.same("33: 1000 ticks then", 1000, one.freeIn());
    }

    private static void leastWorn() {
        BusyChip chip = new BusyChip();
        chip.set(1, 1);
        Check.same("34: none is worn", 0, chip.leastWorn());
        Check.eraseWholly(chip, 0);
        Check.same("34: the next one", 1, chip.leastWorn());
        for (int sector = 1; sector < 8; sector++) {
            Check.eraseWholly(chip, sector);
        }
        Check.same("34: of several the lowest", 0, chip.leastWorn());
        Check.eraseWholly(chip, 0);
        Check.eraseWholly(chip, 1);
        Check.same("34: fewest erasures", 2, chip.leastWorn());
        Check.lockWholly(chip, 3, 0);
        Check.same("34: not a locked one", 4, chip.leastWorn());
        Check.lockWholly(chip, 3, 1);
        Check.same("34: of the lower half", 2, chip.leastWorn());
        Check.lockWholly(chip, 4, 1);
        Check.same("34: all are locked", BusyChip.NONE, chip.leastWorn());
    }

    private static void commonest() {
        BusyChip chip = new BusyChip();
        Check.same("35: a new chip", 255, chip.commonest());
        for (int sector = 0; sector < 4; sector++) {
            chip.arm();
            chip.erase(sector);
            chip.pass(4);
            chip.cut();
        }
        Check.same("35: of several the least", 0, chip.commonest());
        Check.eraseWholly(chip, 0);
        Check.same("35: more than half", 255, chip.commonest());
        chip.arm();
        chip.erase(0);
        chip.pass(4);
        Check.same("35: also when busy", 0, chip.commonest());
        chip.cut();
        Check.writeWholly(chip, 255, 7);
        Check.same("35: one cell less", 0, chip.commonest());
    }

    private static void shares() {
        BusyChip chip = new BusyChip();
        Check.isTrue("36: all bits are 1", chip.onesShare() == 1.0);
        Check.isTrue("37: no erasures", chip.meanWear() == 0.0f);
        Check.writeWholly(chip, 0, 254);
        Check.isTrue("36: but for one", chip.onesShare() == 2047 / 2048.0);
        chip.set(1, 1);
        Check.eraseWholly(chip, 3);
        Check.isTrue("37: one erasure", chip.meanWear() == 0.125f);
        Check.eraseWholly(chip, 4);
        Check.eraseWholly(chip, 4);
        Check.isTrue("37: three erasures", chip.meanWear() == 0.375f);
        for (int sector = 0; sector < 8; sector++) {
            chip.arm();
            chip.erase(sector);
            chip.pass(4);
            if (sector == 6) {
                chip.cut();
                Check.isTrue("36: a sector and no more", chip.onesShare() == 0.125);
                chip.arm();
                chip.erase(7);
                chip.pass(3);
                Check.isTrue("36: a page and no more", chip.onesShare() == 0.03125);
            }
            chip.cut();
        }
        Check.isTrue("36: no bit is 1", chip.onesShare() == 0.0);
        Check.same("38: with no bit", Digests.due(chip, false, ""), chip.digest());
        Check.isTrue("37: an erase that is lost is no erasure", chip.meanWear() == 0.375f);
    }

    private static void digest() {
        BusyChip chip = new BusyChip();
        Check.same("38: a new chip", Digests.due(chip, false, ""), chip.digest());
        chip.set(1, 1);
        chip.set(2, 1);
        for (int i = 0; i < 9; i++) {
            Check.eraseWholly(chip, i % 3);
            Check.same("38: behind erasures", Digests.due(chip, false, ""), chip.digest());
        }
        Check.load(chip, 1, 2, 3, 4, 5, 6, 7, 8, 255);
        Check.same("38: values are loaded", Digests.due(chip, false, "", 1, 2, 3, 4, 5, 6, 7, 8, 255), chip.digest());
        chip.post(0, 37, 3);
        chip.post(1, 7, 8);
        chip.set(1, 50);
        chip.arm();
        chip.keep();
        Check.text(chip, "t1;w!~");
        Check.same("38: orders wait", Digests.due(chip, true, "t1;w!~"), chip.digest());
        for (int i = 0; i < 10; i++) {
            chip.pass(7);
            Check.same("38: in the midst", Digests.due(chip, true, "t1;w!~"), chip.digest());
        }
        Check.lockWholly(chip, 1, 0);
        chip.arm();
        Check.same("38: the sector 0 is locked", Digests.due(chip, true, "t1;w!~"), chip.digest());
        Check.lockWholly(chip, 0, 0);
        Check.writeWholly(chip, 0, 1);
        chip.load(2);
        Check.same("38: it misses at the cell 0", Digests.due(chip, true, "t1;w!~", 2), chip.digest());
        chip.unload();
        chip.arm();
        chip.erase(2);
        chip.suspend();
        chip.load(77);
        chip.post(1, 3, 9);
        Check.same("38: set aside", Digests.due(chip, true, "t1;w!~", 77), chip.digest());
    }
}
