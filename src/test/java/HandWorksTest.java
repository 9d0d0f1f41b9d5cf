/** Promises 1 to 11: a new object, and the works by hand. */
public final class HandWorksTest {
    public static void main(String[] args) {
        newObject();
        arm();
        load();
        unload();
        write();
        writeRoundThePage();
        erase();
        wornSectors();
        lock();
        freeze();
        suspend();
        resume();
        cut();
        Check.end("HandWorksTest");
    }

    private static void newObject() {
        BusyChip chip = new BusyChip();
        for (int cell = 0; cell < 256; cell++) {
            Check.same("1: cell", 255, chip.cell(cell, 0));
            Check.same("1: stuck bits", 0, chip.cell(cell, 1));
            Check.same("1: unsure", 0, chip.cell(cell, 2));
            Check.same("1: value to get", BusyChip.NONE, chip.cell(cell, 3));
        }
        int[] counts = {0, 0, 0, 0, 1, 2048, 0, 0, 0, 0, 0, 0, 0, 0, 0, 0};
        for (int what = 0; what < counts.length; what++) {
            Check.same("1: count(" + what + ")", counts[what], chip.count(what));
        }
        int[] settings = {2, 20, 30, 5, 3};
        for (int i = 0; i < settings.length; i++) {
            Check.same("1: setting(" + i + ")", settings[i], chip.setting(i));
        }
        Check.same("1: no work", 0, chip.work(0, 0));
        Check.same("1: nothing aside", 0, chip.work(1, 0));
        Check.same("1: empty buffer", 0, chip.clearBuffer());
        Check.state("1: no snapshot", chip, () -> chip.goBack());
        Check.state("1: no saved state", chip, () -> chip.undo());
        Check.same("1: two new objects are alike", new BusyChip().digest(), chip.digest());
    }

    private static void arm() {
        BusyChip chip = new BusyChip();
        Check.undoable("2: arm()", chip, () -> chip.arm());
        Check.same("2: arm()", 0, chip.arm());
        Check.same("2: armed", 1, chip.count(1));
        Check.undoable("2: arm() again", chip, () -> chip.arm());
        Check.same("2: arm() again", 1, chip.arm());
        chip.load(1);
        chip.write(3);
        Check.same("2: not armed by then", 0, chip.count(1));
        Check.state("2: arm() when busy", chip, () -> chip.arm());
        chip.suspend();
        Check.same("2: arm() beside a work that is set aside", 0, chip.arm());
    }

    private static void load() {
        BusyChip chip = new BusyChip();
        Check.undoable("3: load(0)", chip, () -> chip.load(0));
        Check.argument("3: load(-1)", chip, () -> chip.load(-1));
        Check.argument("3: load(256)", chip, () -> chip.load(256));
        Check.argument("3: load(MIN)", chip, () -> chip.load(Integer.MIN_VALUE));
        for (int i = 1; i <= 12; i++) {
            Check.same("3: load", i, chip.load(i == 1 ? 0 : i == 2 ? 255 : i));
        }
        Check.same("3: values loaded", 12, chip.count(11));
        Check.state("3: load, the 13th", chip, () -> chip.load(7));
        Check.argument("3: the argument is looked at first", chip, () -> chip.load(300));
        chip.arm();
        chip.write(0);
        Check.same("3: load when busy", 1, chip.load(9));
    }

    private static void unload() {
        BusyChip chip = new BusyChip();
        Check.undoable("4: unload() of nothing", chip, () -> chip.unload());
        Check.same("4: unload() of nothing", 0, chip.unload());
        Check.load(chip, 5, 6, 7);
        Check.undoable("4: unload()", chip, () -> chip.unload());
        Check.same("4: values are back", 7, chip.cell(2, 3));
        Check.same("4: unload()", 3, chip.unload());
        Check.same("4: nothing is loaded", 0, chip.count(11));
        Check.same("4: no value to get", BusyChip.NONE, chip.cell(0, 3));
    }

    private static void write() {
        BusyChip chip = new BusyChip();
        Check.index("5: write(-1)", chip, () -> chip.write(-1));
        Check.index("5: write(256)", chip, () -> chip.write(256));
        Check.state("5: not armed", chip, () -> chip.write(0));
        chip.arm();
        Check.state("5: nothing is loaded", chip, () -> chip.write(0));
        Check.load(chip, 0b11110000, 0b10101010);
        Check.undoable("5: write", chip, () -> chip.write(255));
        Check.same("5: write", 4, chip.write(255));
        Check.same("5: nothing is loaded then", 0, chip.count(11));
        Check.same("5: not armed then", 0, chip.count(1));
        Check.same("5: kind", 1, chip.work(0, 0));
        chip.load(1);
        Check.state("5: busy", chip, () -> chip.write(0));
        Check.index("5: the index is looked at first", chip, () -> chip.write(256));
        chip.pass(1);
        Check.same("5: behind 1 tick", 255, chip.cell(255, 0));
        chip.set(0, 9);
        chip.pass(1);
        Check.same("5: behind 2 ticks", 0b11110000, chip.cell(255, 0));
        Check.same("5: the next one, round the page", 255, chip.cell(248, 0));
        chip.pass(1);
        Check.same("5: behind 3 ticks", 255, chip.cell(248, 0));
        Check.same("5: the write has not ended", 0, chip.count(7));
        chip.pass(1);
        Check.same("5: behind 4 ticks", 0b10101010, chip.cell(248, 0));
        Check.same("5: the write has ended", 1, chip.count(7));
        Check.same("5: bits that fell", 8, chip.count(8));
        Check.same("5: no work", 0, chip.work(0, 0));
        Check.same("5: no other cell", 2048 - 8, chip.count(5));
        chip.arm();
        Check.same("5: setting 0 when it begins", 9, chip.write(255));
        chip.pass(9);
        Check.same("5: AND", 0, chip.read(255));
    }

    private static void writeRoundThePage() {
        BusyChip chip = new BusyChip();
        chip.set(0, 1);
        Check.load(chip, 1, 2, 3, 4, 5, 6, 7, 8, 9, 10, 11, 12);
        chip.arm();
        Check.same("5: 12 values take 8 cells", 8, chip.write(21));
        chip.pass(1);
        Check.same("5: of several values the last one", 9, chip.cell(21, 0));
        chip.pass(7);
        int[] page = {12, 5, 6, 7, 8, 9, 10, 11};
        for (int i = 0; i < 8; i++) {
            Check.same("5: cell " + (16 + i), page[i], chip.read(16 + i));
        }
        Check.same("5: the next page", 255, chip.read(24));
        Check.same("5: the page before", 255, chip.read(15));
    }

    private static void erase() {
        BusyChip chip = new BusyChip();
        Check.index("6: erase(-1)", chip, () -> chip.erase(-1));
        Check.index("6: erase(8)", chip, () -> chip.erase(8));
        Check.state("6: not armed", chip, () -> chip.erase(0));
        Check.writeWholly(chip, 224, 0);
        chip.arm();
        Check.undoable("6: erase", chip, () -> chip.erase(7));
        Check.same("6: erase", 24, chip.erase(7));
        Check.same("6: not armed then", 0, chip.count(1));
        Check.state("6: busy", chip, () -> chip.erase(1));
        Check.index("6: the index is looked at first", chip, () -> chip.erase(8));
        for (int page = 0; page < 4; page++) {
            Check.same("6: before tick " + (page + 1), 255, chip.cell(224 + 8 * page + 1, 0));
            chip.pass(1);
            Check.same("6: first cell of the page", 0, chip.cell(224 + 8 * page, 0));
            Check.same("6: last cell of the page", 0, chip.cell(224 + 8 * page + 7, 0));
        }
        Check.same("6: bits that fell", 256, chip.count(8));
        chip.set(1, 99);
        chip.pass(19);
        Check.same("6: behind 23 ticks", 0, chip.cell(224, 0));
        Check.same("6: no erasure yet", 0, chip.sector(7, 0));
        chip.pass(1);
        Check.same("6: behind 24 ticks", 255, chip.cell(224, 0));
        Check.same("6: all bits", 2048, chip.count(5));
        Check.same("6: an erasure", 1, chip.sector(7, 0));
        Check.same("6: of this sector alone", 1, chip.count(6));
        Check.same("6: bits that fell, all in all", 256, chip.count(8));
        Check.same("6: setting 1 when it begins", 103, chip.sector(7, 5));
    }

    private static void wornSectors() {
        BusyChip chip = new BusyChip();
        chip.set(1, 1);
        chip.set(2, 4);
        for (int i = 0; i < 3; i++) {
            chip.arm();
            Check.same("6: ticks of an erase", 5, chip.erase(2));
            chip.pass(5);
        }
        Check.eraseWholly(chip, 2);
        Check.same("6: as many erasures as it bears", 0, chip.count(12));
        chip.arm();
        Check.same("6: one tick more for 4 erasures", 6, chip.erase(2));
        chip.pass(6);
        Check.same("6: one bit is stuck", 1, chip.count(12));
        Check.same("6: the bit 5 of the cell 5", 32, chip.cell(69, 1));
        Check.same("6: and 0", 223, chip.cell(69, 0));
        Check.same("6: a stuck bit has not fallen", 5 * 256, chip.count(8));
        chip.arm();
        chip.erase(2);
        chip.set(2, 6);
        chip.pass(6);
        Check.same("6: setting 2 as it is at the end", 1, chip.count(12));
        Check.same("6: it stays 0", 223, chip.cell(69, 0));
        chip.set(2, 1);
        for (int i = 7; i <= 32; i++) {
            Check.eraseWholly(chip, 2);
        }
        Check.same("6: bit 0 of the cell 0 with 32 erasures", 1, chip.cell(64, 1));
        Check.same("6: bit 7 of the cell 31 with 31 erasures", 128, chip.cell(95, 1));
        Check.same("6: stuck bits", 1 + 26, chip.count(12));
        Check.same("6: ticks with 32 erasures", 13, chip.sector(2, 5));
        while (chip.sector(2, 0) < 37) {
            Check.eraseWholly(chip, 2);
        }
        Check.same("6: a bit that is stuck already", 32, chip.cell(69, 1));
        BusyChip other = new BusyChip();
        other.set(1, 1);
        other.set(2, 31);
        for (int i = 1; i <= 32; i++) {
            Check.same("28: no stuck bit yet", 0, other.count(12));
            Check.eraseWholly(other, 0);
        }
        Check.same("28: the stuck bit of the cell 0", 1, other.count(12));
    }

    private static void lock() {
        BusyChip chip = new BusyChip();
        Check.argument("7: lock(-1, 0)", chip, () -> chip.lock(-1, 0));
        Check.argument("7: lock(5, 0)", chip, () -> chip.lock(5, 0));
        Check.argument("7: lock(0, -1)", chip, () -> chip.lock(0, -1));
        Check.argument("7: lock(0, 2)", chip, () -> chip.lock(0, 2));
        Check.state("7: not armed", chip, () -> chip.lock(1, 1));
        chip.arm();
        Check.undoable("7: lock", chip, () -> chip.lock(1, 1));
        Check.same("7: lock", 5, chip.lock(1, 1));
        Check.same("7: not armed then", 0, chip.count(1));
        Check.same("7: kind", 3, chip.work(0, 0));
        Check.state("7: busy", chip, () -> chip.lock(2, 1));
        Check.argument("7: the argument is looked at first", chip, () -> chip.lock(5, 1));
        chip.set(3, 1);
        chip.pass(4);
        Check.same("7: the locks are the old ones", 0, chip.sector(7, 1));
        chip.pass(1);
        Check.same("7: the locks are the new ones", 1, chip.sector(7, 1));
        int[] locked = {0, 1, 2, 4, 8};
        for (int level = 0; level <= 4; level++) {
            for (int side = 0; side <= 1; side++) {
                chip.arm();
                Check.same("7: setting 3", 1, chip.lock(level, side));
                chip.pass(1);
                Check.same("7: level", level, chip.count(3));
                Check.same("7: side", side, chip.count(4));
                for (int sector = 0; sector < 8; sector++) {
                    boolean due = side == 1 ? sector >= 8 - locked[level] : sector < locked[level];
                    Check.same("7: locks " + level + ", " + side + ", " + sector, due ? 1 : 0, chip.sector(sector, 1));
                }
            }
        }
    }

    private static void freeze() {
        BusyChip chip = new BusyChip();
        Check.undoable("8: freeze()", chip, () -> chip.freeze());
        Check.same("8: freeze()", 0, chip.freeze());
        Check.same("8: frozen", 1, chip.count(2));
        Check.undoable("8: freeze() again", chip, () -> chip.freeze());
        Check.same("8: freeze() again", 1, chip.freeze());
        chip.arm();
        Check.same("8: why", 3, chip.why(3, 0));
        Check.state("8: lock", chip, () -> chip.lock(1, 1));
        chip.erase(0);
        Check.state("8: freeze() when busy", chip, () -> chip.freeze());
        chip.cut();
        Check.same("8: not frozen without power", 0, chip.freeze());
    }

    private static void suspend() {
        BusyChip chip = new BusyChip();
        Check.state("9: nothing to set aside", chip, () -> chip.suspend());
        chip.arm();
        chip.lock(1, 1);
        Check.state("9: a change of the locks", chip, () -> chip.suspend());
        chip.pass(5);
        chip.arm();
        chip.erase(0);
        chip.pass(3);
        Check.undoable("9: suspend()", chip, () -> chip.suspend());
        Check.same("9: suspend()", 21, chip.suspend());
        Check.same("9: how often", 1, chip.count(14));
        Check.same("9: none is under way", 0, chip.work(0, 0));
        Check.same("9: one is set aside", 2, chip.work(1, 0));
        Check.same("9: by hand", 0, chip.work(1, 4));
        chip.pass(50);
        Check.same("9: it stays as it is", 21, chip.work(1, 2));
        Check.same("9: the cells, too", 255, chip.cell(24, 0));
        chip.load(3);
        chip.arm();
        chip.write(40);
        Check.state("9: one is set aside already", chip, () -> chip.suspend());
        chip.pass(2);
        chip.load(3);
        chip.arm();
        Check.state("9: a write in its sector", chip, () -> chip.write(31));
        Check.same("9: a write in another sector", 2, chip.write(32));
        chip.pass(2);
        chip.resume();
        chip.pass(21);
        Check.load(chip, 1, 2);
        chip.arm();
        chip.write(100);
        chip.pass(1);
        Check.same("9: a write", 3, chip.suspend());
        chip.load(4);
        chip.arm();
        Check.state("9: no other write", chip, () -> chip.write(0));
        Check.state("9: no erase", chip, () -> chip.erase(1));
        Check.state("9: no change of the locks", chip, () -> chip.lock(0, 0));
    }

    private static void resume() {
        BusyChip chip = new BusyChip();
        Check.state("10: nothing is set aside", chip, () -> chip.resume());
        Check.load(chip, 1, 2);
        chip.arm();
        chip.write(15);
        chip.pass(1);
        Check.state("10: nothing is set aside, and the chip is busy", chip, () -> chip.resume());
        chip.suspend();
        chip.pass(7);
        Check.undoable("10: resume()", chip, () -> chip.resume());
        Check.same("10: resume()", 3, chip.resume());
        Check.same("10: none is set aside", 0, chip.work(1, 0));
        chip.pass(1);
        Check.same("10: the first cell", 1, chip.cell(15, 0));
        Check.same("10: suspend() again", 2, chip.suspend());
        chip.resume();
        chip.pass(2);
        Check.same("10: the next cell", 2, chip.read(8));
        chip.arm();
        chip.erase(4);
        chip.suspend();
        chip.load(7);
        chip.arm();
        chip.write(0);
        Check.state("10: busy", chip, () -> chip.resume());
        BusyChip byClerk = new BusyChip();
        byClerk.post(1, 5, 0);
        byClerk.pass(2);
        byClerk.load(1);
        byClerk.post(0, 0, 9);
        byClerk.pass(2);
        Check.same("10: set aside by the clerk", 1, byClerk.work(1, 4));
        Check.same("10: whoever set it aside", 22, byClerk.resume());
        Check.same("10: not set aside any more", 0, byClerk.work(0, 4));
        Check.same("10: nothing is, nor by the clerk", 0, byClerk.work(1, 4));
        Check.same("10: its urgency", 0, byClerk.work(0, 3));
        Check.same("10: suspend() by hand", 22, byClerk.suspend());
        Check.same("10: then it is set aside by hand", 0, byClerk.work(1, 4));
        Check.same("10: and the clerk lets it be", 0, byClerk.pass(5));
    }

    private static void cut() {
        BusyChip chip = new BusyChip();
        Check.undoable("11: cut()", chip, () -> chip.cut());
        Check.same("11: cut() of nothing", 0, chip.cut());
        Check.lockWholly(chip, 1, 1);
        chip.freeze();
        chip.arm();
        chip.load(1);
        chip.post(1, 7, 4);
        Check.same("11: cut()", 0, chip.cut());
        Check.same("11: not armed", 0, chip.count(1));
        Check.same("11: not frozen", 0, chip.count(2));
        Check.same("11: not a value", 0, chip.count(11));
        Check.same("11: the locks stay", 1, chip.count(3));
        Check.same("11: orders stay", 1, chip.count(10));
        Check.same("11: nothing was lost", 0, chip.count(9));
        chip.arm();
        chip.erase(3);
        chip.pass(2);
        chip.suspend();
        Check.load(chip, 1, 2, 3);
        chip.arm();
        chip.write(30);
        chip.pass(3);
        Check.undoable("11: cut() of two works", chip, () -> chip.cut());
        Check.same("11: cut() of two works", 2, chip.cut());
        Check.same("11: works lost", 2, chip.count(9));
        Check.same("11: cells stay as they are", 1, chip.cell(30, 0));
        Check.same("11: what was not written yet", 255, chip.cell(31, 0));
        Check.same("11: a half erased sector", 128, chip.sector(3, 2));
        Check.same("11: unsure pages", 5, chip.count(13));
        Check.same("11: the page of the write", 1, chip.cell(24, 2));
        Check.same("11: no other page", 0, chip.cell(23, 2));
        Check.same("11: all pages of the sector", 4, chip.sector(3, 4));
        Check.same("11: no work", 0, chip.work(0, 0) + chip.work(1, 0));
        Check.eraseWholly(chip, 3);
        Check.same("11: sure again", 0, chip.sector(3, 4));
        Check.writeWholly(chip, 24, 0);
        Check.same("11: a write makes nothing sure", 1, chip.cell(24, 2));
        chip.arm();
        chip.lock(0, 0);
        Check.same("11: a change of the locks", 1, chip.cut());
        Check.same("11: has not taken place", 1, chip.count(3));
        Check.same("11: and leaves nothing unsure", 1, chip.count(13));
    }
}
