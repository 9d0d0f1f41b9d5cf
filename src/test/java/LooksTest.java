/** Promises 23 to 30: looks, by which nothing is changed. */
public final class LooksTest {
    public static void main(String[] args) {
        read();
        cell();
        sector();
        work();
        order();
        count();
        setting();
        why();
        nothingIsChanged();
        Check.end("LooksTest");
    }

    private static void read() {
        BusyChip chip = new BusyChip();
        Check.index("23: read(-1)", chip, () -> chip.read(-1));
        Check.index("23: read(256)", chip, () -> chip.read(256));
        Check.same("23: the first cell", 255, chip.read(0));
        Check.writeWholly(chip, 255, 18);
        Check.same("23: the last cell", 18, chip.read(255));
        Check.load(chip, 1, 2);
        chip.arm();
        chip.write(14);
        Check.state("23: busy", chip, () -> chip.read(200));
        Check.index("23: the index is looked at first", chip, () -> chip.read(256));
        chip.pass(2);
        chip.suspend();
        Check.state("23: in the page of a write that is set aside", chip, () -> chip.read(8));
        Check.state("23: also the last cell of it", chip, () -> chip.read(15));
        Check.same("23: the page before", 255, chip.read(7));
        Check.same("23: the page behind", 255, chip.read(16));
        chip.resume();
        chip.pass(2);
        Check.same("23: at the end", 1, chip.read(14));
        chip.arm();
        chip.erase(3);
        chip.suspend();
        Check.state("23: in the sector of an erase that is set aside", chip, () -> chip.read(96));
        Check.state("23: also the last cell of it", chip, () -> chip.read(127));
        Check.same("23: the sector before", 255, chip.read(95));
        Check.same("23: the sector behind", 255, chip.read(128));
        chip.cut();
        Check.same("23: an unsure cell is read", 255, chip.read(96));
    }

    private static void cell() {
        BusyChip chip = new BusyChip();
        Check.index("24: cell -1", chip, () -> chip.cell(-1, 0));
        Check.index("24: cell 256, before what", chip, () -> chip.cell(256, 9));
        Check.argument("24: what -1", chip, () -> chip.cell(0, -1));
        Check.argument("24: what 4", chip, () -> chip.cell(0, 4));
        Check.load(chip, 10, 20, 30);
        Check.same("24: the first value", 10, chip.cell(40, 3));
        Check.same("24: the last one", 30, chip.cell(42, 3));
        Check.same("24: none", BusyChip.NONE, chip.cell(43, 3));
        Check.load(chip, 40, 50, 60, 70, 80, 90, 100);
        Check.same("24: 10 values, the first cell", 90, chip.cell(0, 3));
        Check.same("24: the second cell", 100, chip.cell(1, 3));
        Check.same("24: the third cell", 30, chip.cell(2, 3));
        Check.same("24: the last cell", 80, chip.cell(7, 3));
        chip.arm();
        chip.write(255);
        chip.pass(2);
        Check.same("24: whether the chip is busy or not", 90, chip.cell(255, 0));
        chip.load(255);
        Check.same("24: the value, not what the cell would hold", 255, chip.cell(248, 3));
        chip.cut();
        Check.same("24: unsure", 1, chip.cell(248, 2));
        Check.same("24: not unsure", 0, chip.cell(247, 2));
        chip.set(2, 1);
        chip.set(1, 1);
        Check.eraseWholly(chip, 0);
        Check.eraseWholly(chip, 0);
        Check.same("24: stuck bits", 4, chip.cell(2, 1));
        Check.same("24: no stuck bits", 0, chip.cell(1, 1));
    }

    private static void sector() {
        BusyChip chip = new BusyChip();
        Check.index("25: sector -1", chip, () -> chip.sector(-1, 0));
        Check.index("25: sector 8, before what", chip, () -> chip.sector(8, 9));
        Check.argument("25: what -1", chip, () -> chip.sector(0, -1));
        Check.argument("25: what 7", chip, () -> chip.sector(0, 7));
        Check.same("25: bits", 256, chip.sector(7, 2));
        Check.same("25: pages", 0, chip.sector(7, 3));
        Check.writeWholly(chip, 231, 254);
        Check.writeWholly(chip, 255, 0, 127);
        Check.same("25: bits behind writes", 256 - 10, chip.sector(7, 2));
        Check.same("25: pages behind writes", 2, chip.sector(7, 3));
        Check.same("25: of the sector before", 256, chip.sector(6, 2));
        Check.same("25: ticks", 24, chip.sector(7, 5));
        chip.set(1, 7);
        Check.same("25: ticks if it is begun now", 11, chip.sector(7, 5));
        for (int i = 0; i < 4; i++) {
            Check.same("25: erasures", i, chip.sector(7, 0));
            Check.eraseWholly(chip, 7);
        }
        Check.same("25: ticks behind 4 erasures", 12, chip.sector(7, 5));
        Check.same("25: of another sector", 11, chip.sector(6, 5));
        chip.post(1, 2, 0);
        chip.load(1);
        chip.post(0, 95, 1);
        chip.load(1);
        chip.post(0, 96, 2);
        Check.same("25: orders for it", 2, chip.sector(2, 6));
        Check.same("25: for the next one", 1, chip.sector(3, 6));
        Check.same("25: for none", 0, chip.sector(1, 6));
        Check.lockWholly(chip, 3, 0);
        Check.same("25: also for a locked one", 2, chip.sector(2, 1) + chip.sector(3, 6));
        chip.cut();
        Check.same("25: no unsure pages", 0, chip.sector(2, 4));
        chip.arm();
        chip.erase(5);
        chip.cut();
        Check.same("25: unsure pages", 4, chip.sector(5, 4));
        Check.same("25: of the next sector", 0, chip.sector(6, 4));
    }

    private static void work() {
        BusyChip chip = new BusyChip();
        Check.argument("26: aside -1", chip, () -> chip.work(-1, 0));
        Check.argument("26: aside 2", chip, () -> chip.work(2, 0));
        Check.argument("26: what -1", chip, () -> chip.work(0, -1));
        Check.argument("26: what 5", chip, () -> chip.work(0, 5));
        works("26: none", chip, 0, 0, -1, 0, -1, 0);
        works("26: none aside", chip, 1, 0, -1, 0, -1, 0);
        Check.load(chip, 1, 2, 3);
        chip.arm();
        chip.write(47);
        works("26: a write", chip, 0, 1, 47, 6, -1, 0);
        chip.pass(3);
        works("26: in its midst", chip, 0, 1, 47, 3, -1, 0);
        chip.suspend();
        works("26: set aside", chip, 1, 1, 47, 3, -1, 0);
        works("26: nothing under way", chip, 0, 0, -1, 0, -1, 0);
        chip.cut();
        works("26: lost", chip, 1, 0, -1, 0, -1, 0);
        chip.arm();
        chip.lock(2, 0);
        chip.pass(1);
        works("26: a change of the locks", chip, 0, 3, 2, 4, -1, 0);
        chip.pass(4);
        chip.post(1, 6, 4);
        chip.pass(1);
        works("26: an erase by the clerk", chip, 0, 2, 6, 23, 4, 0);
        chip.load(9);
        chip.post(0, 96, 8);
        chip.pass(1);
        works("26: set aside by the clerk", chip, 1, 2, 6, 23, 4, 1);
        works("26: a write by the clerk", chip, 0, 1, 96, 1, 8, 0);
        chip.pass(2);
        works("26: it goes on", chip, 0, 2, 6, 22, 4, 0);
    }

    private static void works(String what, BusyChip chip, int aside, int... due) {
        for (int i = 0; i < due.length; i++) {
            Check.same(what + ": work(" + aside + ", " + i + ")", due[i], chip.work(aside, i));
        }
    }

    private static void order() {
        BusyChip chip = new BusyChip();
        Check.index("27: none waits", chip, () -> chip.order(0, 0));
        Check.lockWholly(chip, 4, 0);
        Check.load(chip, 1, 2, 3, 4, 5, 6, 7, 8, 9, 10, 11, 12);
        chip.post(0, 250, 5);
        chip.pass(3);
        chip.post(1, 4, 5);
        chip.pass(4);
        Check.load(chip, 1);
        chip.post(0, 3, 6);
        int[][] due = {{2, 0, 3, 6, 0, 1}, {0, 0, 250, 5, 7, 12}, {1, 1, 4, 5, 4, 0}};
        for (int rank = 0; rank < due.length; rank++) {
            for (int what = 0; what < 6; what++) {
                Check.same("27: order(" + rank + ", " + what + ")", due[rank][what], chip.order(rank, what));
            }
        }
        Check.index("27: rank -1", chip, () -> chip.order(-1, 0));
        Check.index("27: rank 3, before what", chip, () -> chip.order(3, 9));
        Check.argument("27: what -1", chip, () -> chip.order(2, -1));
        Check.argument("27: what 6", chip, () -> chip.order(2, 6));
    }

    private static void count() {
        BusyChip chip = new BusyChip();
        Check.argument("28: what -1", chip, () -> chip.count(-1));
        Check.argument("28: what 16", chip, () -> chip.count(16));
        chip.set(1, 1);
        chip.set(2, 2);
        for (int i = 0; i < 4; i++) {
            Check.eraseWholly(chip, i / 3);
        }
        Check.writeWholly(chip, 200, 15, 240);
        chip.arm();
        chip.lock(2, 0);
        chip.pass(5);
        chip.freeze();
        chip.arm();
        chip.erase(5);
        chip.pass(1);
        chip.suspend();
        chip.load(3);
        chip.arm();
        chip.write(100);
        chip.post(1, 7, 7);
        chip.cut();
        chip.freeze();
        Check.load(chip, 4, 5);
        chip.arm();
        int ticks = 20 + 4 + 5 + 1;
        int ones = 2048 - 1 - 8 - 64;
        int fallen = 3 * 256 + 256 + 8 + 64;
        int[] due = {ticks, 1, 1, 2, 0, ones, 4, 1, fallen, 2, 1, 2, 1, 5, 1, 6};
        for (int what = 0; what < due.length; what++) {
            Check.same("28: count(" + what + ")", due[what], chip.count(what));
        }
        chip.undo();
        Check.same("28: saved states", 5, chip.count(15));
        Check.same("28: not armed", 0, chip.count(1));
    }

    private static void setting() {
        BusyChip chip = new BusyChip();
        Check.index("29: setting(-1)", chip, () -> chip.setting(-1));
        Check.index("29: setting(5)", chip, () -> chip.setting(5));
        for (int i = 0; i < 5; i++) {
            chip.set(i, i + 4);
        }
        for (int i = 0; i < 5; i++) {
            Check.same("29: setting(" + i + ")", i + 4, chip.setting(i));
        }
    }

    private static void why() {
        BusyChip chip = new BusyChip();
        Check.argument("30: kind 0", chip, () -> chip.why(0, 0));
        Check.argument("30: kind 4, before the place", chip, () -> chip.why(4, 999));
        Check.index("30: cell -1", chip, () -> chip.why(1, -1));
        Check.index("30: cell 256", chip, () -> chip.why(1, 256));
        Check.index("30: sector 8", chip, () -> chip.why(2, 8));
        Check.index("30: sector -1", chip, () -> chip.why(2, -1));
        Check.index("30: level 5", chip, () -> chip.why(3, 5));
        Check.index("30: level -1", chip, () -> chip.why(3, -1));
        whys("30: not armed", chip, 2, 2, 2);
        chip.arm();
        whys("30: nothing loaded", chip, 5, 0, 0);
        chip.load(1);
        whys("30: all can be begun", chip, 0, 0, 0);
        chip.lock(1, 0);
        whys("30: busy", chip, 1, 1, 1);
        chip.pass(5);
        whys("30: not armed before locked", chip, 2, 2, 2);
        chip.arm();
        whys("30: locked", chip, 3, 3, 0);
        chip.freeze();
        whys("30: frozen", chip, 3, 3, 3);
        Check.same("30: a free cell", 0, chip.why(1, 32));
        Check.same("30: a free sector", 0, chip.why(2, 1));
        Check.same("30: the last cell", 0, chip.why(1, 255));
        chip.erase(1);
        chip.suspend();
        chip.arm();
        Check.same("30: locked before set aside", 3, chip.why(1, 0));
        Check.same("30: frozen before set aside", 3, chip.why(3, 4));
        Check.same("30: a write in its sector", 4, chip.why(1, 63));
        Check.same("30: a write in another sector", 0, chip.why(1, 64));
        Check.same("30: an erase of its sector", 4, chip.why(2, 1));
        Check.same("30: an erase of another sector", 4, chip.why(2, 2));
        chip.unload();
        Check.same("30: set aside before nothing loaded", 4, chip.why(1, 63));
        Check.same("30: nothing loaded", 5, chip.why(1, 64));
        chip.cut();
        chip.load(1);
        chip.arm();
        chip.write(64);
        chip.suspend();
        chip.load(1);
        chip.arm();
        Check.same("30: a write beside a write", 4, chip.why(1, 128));
        Check.same("30: an erase beside a write", 4, chip.why(2, 4));
        Check.same("30: a change of the locks beside a write", 4, chip.why(3, 1));
    }

    private static void whys(String what, BusyChip chip, int write, int erase, int locks) {
        Check.same(what + ": write", write, chip.why(1, 0));
        Check.same(what + ": erase", erase, chip.why(2, 0));
        Check.same(what + ": locks", locks, chip.why(3, 0));
    }

    private static void nothingIsChanged() {
        BusyChip chip = new BusyChip();
        chip.post(1, 3, 2);
        chip.pass(3);
        chip.load(6);
        chip.post(0, 3, 9);
        chip.load(7);
        chip.pass(1);
        chip.post(1, 7, 1);
        long before = chip.digest();
        chip.cell(3, 3);
        chip.sector(3, 5);
        chip.work(1, 4);
        chip.order(0, 4);
        chip.count(5);
        chip.setting(2);
        chip.why(1, 3);
        chip.misses(9);
        chip.fits();
        chip.freeIn();
        chip.leastWorn();
        chip.commonest();
        chip.onesShare();
        chip.meanWear();
        chip.digest();
        Check.same("23 to 38: nothing is changed", before, chip.digest());
    }
}
