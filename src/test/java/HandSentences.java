/** Promises 1 to 11: a new object, and works by hand. */
final class HandSentences extends Sentences {
    static void all() {
        newObject();
        arm();
        load();
        unload();
        write();
        erase();
        lock();
        freeze();
        suspend();
        resume();
        cut();
    }

    private static void newObject() {
        in("Promise 1");
        held("Creates an erased chip that is not busy", () -> {
            BusyChip chip = new BusyChip();
            same("bits that are 1", 2048, chip.count(5));
            same("erasures", 0, chip.count(6));
            same("unsure pages", 0, chip.count(13));
            works(chip, 0, 0, -1, 0, -1, 0);
            works(chip, 1, 0, -1, 0, -1, 0);
            same("nothing to wait for", 0, chip.freeIn());
            same("not armed, not frozen", 0, chip.count(1) + chip.count(2));
            same("no ticks", 0, chip.count(0));
            same("no orders", 0, chip.count(10));
            same("nothing loaded", 0, chip.count(11));
        });
        held("with an empty buffer", () -> {
            BusyChip chip = new BusyChip();
            same("no error", 0, chip.firstError());
            argument("no orders", chip, () -> chip.obey());
            same("its length", 0, chip.clearBuffer());
            same("the first character", 1, chip.append('t'));
        });
        held("and no snapshot", () -> {
            BusyChip chip = new BusyChip();
            state("goBack()", chip, () -> chip.goBack());
            state("no saved state either", chip, () -> chip.undo());
        });
        held("`BusyChip()`: Creates", () -> {
            BusyChip first = new BusyChip();
            first.arm();
            first.load(1);
            first.write(0);
            first.pass(2);
            first.keep();
            first.append('t');
            BusyChip second = new BusyChip();
            same("objects have nothing in common", 255, second.cell(0, 0));
            state("not the snapshot", second, () -> second.goBack());
            same("not the buffer", 0, second.clearBuffer());
            same("each new one is like the other", new BusyChip().digest(), second.digest());
        });
    }

    private static void arm() {
        in("Promise 2");
        held("Arms the chip", () -> {
            BusyChip chip = new BusyChip();
            same("before", 2, chip.why(2, 0));
            chip.arm();
            same("armed", 1, chip.count(1));
            same("a work can be begun", 0, chip.why(2, 0));
            chip.pass(200);
            same("it stays armed", 1, chip.count(1));
        });
        held("Undoable", () -> {
            BusyChip chip = new BusyChip();
            undone("arm()", chip, () -> chip.arm());
            chip.arm();
            undone("arm() again", chip, () -> chip.arm());
            same("still armed", 1, chip.count(1));
        });
        held("Returns 1 if it was armed already, otherwise 0", () -> {
            BusyChip chip = new BusyChip();
            same("a new chip", 0, chip.arm());
            same("armed already", 1, chip.arm());
            same("and again", 1, chip.arm());
            chip.cut();
            same("without power", 0, chip.arm());
            chip.erase(0);
            chip.suspend();
            same("behind a begun work", 0, chip.arm());
        });
        held("Throws `IllegalStateException` if the chip is busy", () -> {
            BusyChip chip = new BusyChip();
            chip.load(1);
            chip.arm();
            chip.write(3);
            state("a write", chip, () -> chip.arm());
            chip.pass(1);
            state("its last tick", chip, () -> chip.arm());
            chip.pass(1);
            same("at its end", 0, chip.arm());
            chip.lock(1, 1);
            state("a change of the locks", chip, () -> chip.arm());
            chip.pass(5);
            chip.arm();
            obeyed(chip, "e0;t1");
            state("a work of the clerk, and armed already", chip, () -> chip.arm());
            chip.suspend();
            same("one that is set aside is not under way", 1, chip.arm());
        });
    }

    private static void load() {
        in("Promise 3");
        held("Loads a value, behind those that are loaded", () -> {
            BusyChip chip = new BusyChip();
            load(chip, 5, 0, 255, 5);
            int[] due = {5, 0, 255, 5, -1};
            for (int i = 0; i < due.length; i++) {
                same("value " + i, due[i], chip.cell(i, 3));
            }
        });
        held("Undoable", () -> {
            BusyChip chip = new BusyChip();
            undone("the first value", chip, () -> chip.load(0));
            load(chip, 1, 2);
            undone("the third value", chip, () -> chip.load(3));
            same("the second one stays", 2, chip.cell(1, 3));
        });
        held("`value`: 0 to 255", () -> {
            BusyChip chip = new BusyChip();
            chip.load(0);
            chip.load(255);
            same("the least", 0, chip.cell(0, 3));
            same("the greatest", 255, chip.cell(1, 3));
        });
        held("Returns how many values are loaded then", () -> {
            BusyChip chip = new BusyChip();
            for (int size = 1; size <= 12; size++) {
                same("load", size, chip.load(7));
                same("count(11)", size, chip.count(11));
            }
            chip.unload();
            same("from the start again", 1, chip.load(7));
        });
        held("Throws `IllegalArgumentException` if value is out of range", () -> {
            BusyChip chip = new BusyChip();
            argumentOutside(chip, 0, 255, value -> chip.load(value));
            load(chip, new int[12]);
            argument("ahead of 12 values, below", chip, () -> chip.load(-1));
            argument("ahead of 12 values, above", chip, () -> chip.load(256));
        });
        held("Throws `IllegalStateException` if 12 values are loaded", () -> {
            BusyChip chip = new BusyChip();
            load(chip, new int[11]);
            same("the twelfth", 12, chip.load(9));
            state("the least value", chip, () -> chip.load(0));
            state("the greatest value", chip, () -> chip.load(255));
            chip.undo();
            same("11 are loaded", 12, chip.load(9));
            chip.arm();
            chip.write(0);
            same("none is loaded, though busy", 1, chip.load(9));
        });
    }

    private static void unload() {
        in("Promise 4");
        held("Takes away all values that are loaded", () -> {
            BusyChip chip = new BusyChip();
            load(chip, new int[12]);
            chip.unload();
            same("loaded", 0, chip.count(11));
            for (int cell = 0; cell < 8; cell++) {
                same("none for the cell " + cell, -1, chip.cell(cell, 3));
            }
            chip.arm();
            same("nothing to write", 5, chip.why(1, 0));
            chip.load(3);
            same("one value alone", 2, chip.write(0));
        });
        held("Undoable", () -> {
            BusyChip chip = new BusyChip();
            undone("of none", chip, () -> chip.unload());
            load(chip, 1, 2, 3);
            undone("of three", chip, () -> chip.unload());
            same("they are back", 3, chip.cell(2, 3));
        });
        held("Returns how many they were", () -> {
            BusyChip chip = new BusyChip();
            same("none", 0, chip.unload());
            for (int size = 1; size <= 12; size++) {
                load(chip, new int[size]);
                same("unload", size, chip.unload());
                same("none is left", 0, chip.unload());
            }
        });
    }

    private static void write() {
        in("Promise 5");
        held("Begins a write of the values that are loaded", () -> {
            BusyChip chip = new BusyChip();
            load(chip, 16, 32);
            chip.arm();
            chip.write(255);
            works(chip, 0, 1, 255, 4, -1, 0);
            cells(chip, 255, 255);
            chip.load(1);
            same("values that are loaded later are not for it", 4, chip.pass(50));
            cells(chip, 255, 16);
            cells(chip, 247, 255, 32, 255);
        });
        held("nothing is loaded then", () -> {
            BusyChip chip = new BusyChip();
            load(chip, new int[12]);
            chip.arm();
            chip.write(0);
            same("loaded", 0, chip.count(11));
            same("unload()", 0, chip.unload());
        });
        held("Undoable", () -> {
            BusyChip chip = new BusyChip();
            load(chip, 7, 8);
            chip.arm();
            undone("write(9)", chip, () -> chip.write(9));
            same("armed", 1, chip.count(1));
            same("the values are loaded", 8, chip.cell(1, 3));
        });
        held("`cell`: the first cell, 0 to 255", () -> {
            BusyChip chip = new BusyChip();
            writeWholly(chip, 0, 1);
            writeWholly(chip, 255, 2);
            cells(chip, 0, 1, 255);
            cells(chip, 254, 255, 2);
        });
        held("Returns how many ticks it takes", () -> {
            for (int size = 1; size <= 12; size++) {
                BusyChip chip = new BusyChip();
                load(chip, new int[size]);
                chip.arm();
                same(size + " values", 2 * Math.min(size, 8), chip.write(128));
                same("so many", 2 * Math.min(size, 8), chip.pass(200));
            }
        });
        held("Throws `IndexOutOfBoundsException` if there is no such cell", () -> {
            BusyChip chip = new BusyChip();
            index("ahead of all that hinders", chip, () -> chip.write(256));
            chip.arm();
            chip.load(1);
            indexOutside(chip, 0, 255, cell -> chip.write(cell));
            chip.write(0);
            index("ahead of busy", chip, () -> chip.write(-1));
        });
        held("Throws `IllegalStateException` if it can not be begun", () -> {
            BusyChip chip = new BusyChip();
            chip.load(1);
            state("not armed", chip, () -> chip.write(0));
            chip.unload();
            chip.arm();
            state("nothing is loaded", chip, () -> chip.write(0));
            lockWholly(chip, 1, 0);
            chip.arm();
            chip.load(1);
            state("locked", chip, () -> chip.write(31));
            same("not locked", 2, chip.write(32));
            chip.load(1);
            state("busy", chip, () -> chip.write(32));
            chip.suspend();
            chip.arm();
            state("a write is set aside", chip, () -> chip.write(200));
        });
    }

    private static void erase() {
        in("Promise 6");
        held("Begins an erase", () -> {
            BusyChip chip = new BusyChip();
            chip.load(9);
            chip.arm();
            chip.erase(7);
            works(chip, 0, 2, 7, 24, -1, 0);
            same("what is loaded stays", 1, chip.count(11));
            same("no cell has fallen", 2048, chip.count(5));
        });
        held("Undoable", () -> {
            BusyChip chip = new BusyChip();
            chip.arm();
            undone("erase(7)", chip, () -> chip.erase(7));
            same("armed", 1, chip.count(1));
        });
        held("`sector`: 0 to 7", () -> {
            BusyChip chip = new BusyChip();
            eraseWholly(chip, 0);
            eraseWholly(chip, 7);
            int[] due = {1, 0, 0, 0, 0, 0, 0, 1};
            for (int sector = 0; sector < 8; sector++) {
                same("sector " + sector, due[sector], chip.sector(sector, 0));
            }
        });
        held("Returns how many ticks it takes", () -> {
            BusyChip chip = new BusyChip();
            int[] settings = {20, 1, 99, 1, 1};
            int[] due = {24, 5, 103, 5, 6};
            for (int i = 0; i < due.length; i++) {
                chip.set(1, settings[i]);
                chip.arm();
                same("with " + i + " erasures", due[i], chip.erase(2));
                same("so many", due[i], chip.pass(200));
            }
        });
        held("Throws `IndexOutOfBoundsException` if there is no such sector", () -> {
            BusyChip chip = new BusyChip();
            index("ahead of all that hinders", chip, () -> chip.erase(8));
            chip.arm();
            indexOutside(chip, 0, 7, sector -> chip.erase(sector));
            chip.erase(0);
            index("ahead of busy", chip, () -> chip.erase(-1));
        });
        held("Throws `IllegalStateException` if it can not be begun", () -> {
            BusyChip chip = new BusyChip();
            state("not armed", chip, () -> chip.erase(0));
            lockWholly(chip, 2, 1);
            chip.arm();
            state("locked", chip, () -> chip.erase(6));
            same("not locked", 24, chip.erase(5));
            state("busy", chip, () -> chip.erase(0));
            chip.suspend();
            chip.arm();
            state("an erase is set aside", chip, () -> chip.erase(0));
            state("though it is of the same sector", chip, () -> chip.erase(5));
        });
    }

    private static void lock() {
        in("Promise 7");
        held("Begins a change of the locks", () -> {
            BusyChip chip = new BusyChip();
            chip.arm();
            chip.lock(3, 0);
            works(chip, 0, 3, 3, 5, -1, 0);
            same("the level has not changed", 0, chip.count(3));
            same("nor has the side", 1, chip.count(4));
        });
        held("Undoable", () -> {
            BusyChip chip = new BusyChip();
            chip.arm();
            undone("lock(4, 0)", chip, () -> chip.lock(4, 0));
            undone("lock to what they are", chip, () -> chip.lock(0, 1));
        });
        held("`level`: the new level, 0 to 4", () -> {
            BusyChip chip = new BusyChip();
            lockWholly(chip, 4, 1);
            same("the highest", 4, chip.count(3));
            lockWholly(chip, 0, 1);
            same("the lowest", 0, chip.count(3));
        });
        held("`side`: the new side, 1 for the top, 0 for the bottom", () -> {
            BusyChip chip = new BusyChip();
            lockWholly(chip, 1, 0);
            same("the bottom", 1, chip.sector(0, 1));
            same("and not the top", 0, chip.sector(7, 1));
            lockWholly(chip, 1, 1);
            same("the top", 1, chip.sector(7, 1));
            same("and not the bottom", 0, chip.sector(0, 1));
        });
        held("Returns how many ticks it takes", () -> {
            BusyChip chip = new BusyChip();
            for (int ticks = 1; ticks <= 20; ticks++) {
                chip.set(3, ticks);
                chip.arm();
                same("lock", ticks, chip.lock(ticks % 5, ticks % 2));
                same("so many", ticks, chip.pass(30));
            }
        });
        held("Throws `IllegalArgumentException` if level or side is out of range", () -> {
            BusyChip chip = new BusyChip();
            argument("ahead of not armed", chip, () -> chip.lock(5, 0));
            chip.arm();
            argumentOutside(chip, 0, 4, level -> chip.lock(level, 0));
            argumentOutside(chip, 0, 4, level -> chip.lock(level, 1));
            argumentOutside(chip, 0, 1, side -> chip.lock(0, side));
            argumentOutside(chip, 0, 1, side -> chip.lock(4, side));
            chip.freeze();
            argument("ahead of frozen", chip, () -> chip.lock(1, 2));
        });
        held("Throws `IllegalStateException` if it can not be begun", () -> {
            BusyChip chip = new BusyChip();
            state("not armed", chip, () -> chip.lock(1, 1));
            chip.arm();
            chip.freeze();
            state("frozen", chip, () -> chip.lock(1, 1));
            chip.erase(0);
            state("busy", chip, () -> chip.lock(1, 1));
            chip.suspend();
            chip.arm();
            state("an erase is set aside, and frozen", chip, () -> chip.lock(1, 1));
            chip.cut();
            chip.arm();
            chip.erase(0);
            chip.suspend();
            chip.arm();
            state("an erase is set aside", chip, () -> chip.lock(1, 1));
            chip.resume();
            chip.pass(24);
            same("nothing hinders", 5, chip.lock(1, 1));
        });
    }

    private static void freeze() {
        in("Promise 8");
        held("Freezes the locks", () -> {
            BusyChip chip = new BusyChip();
            chip.arm();
            same("before", 0, chip.why(3, 1));
            chip.freeze();
            same("frozen", 1, chip.count(2));
            same("then", 3, chip.why(3, 1));
            same("the chip stays armed", 1, chip.count(1));
        });
        held("Undoable", () -> {
            BusyChip chip = new BusyChip();
            undone("freeze()", chip, () -> chip.freeze());
            chip.freeze();
            undone("freeze() again", chip, () -> chip.freeze());
            same("still frozen", 1, chip.count(2));
        });
        held("Returns 1 if they were frozen already, otherwise 0", () -> {
            BusyChip chip = new BusyChip();
            same("not frozen", 0, chip.freeze());
            same("frozen already", 1, chip.freeze());
            same("and again", 1, chip.freeze());
            chip.cut();
            same("without power", 0, chip.freeze());
            chip.undo();
            same("undone", 0, chip.freeze());
        });
        held("Throws `IllegalStateException` if the chip is busy", () -> {
            BusyChip chip = new BusyChip();
            chip.arm();
            chip.lock(1, 1);
            state("a change of the locks", chip, () -> chip.freeze());
            chip.pass(4);
            state("its last tick", chip, () -> chip.freeze());
            chip.pass(1);
            same("at its end", 0, chip.freeze());
            obeyed(chip, "w0:00;t1");
            state("a work of the clerk, and frozen already", chip, () -> chip.freeze());
            chip.suspend();
            same("one that is set aside is not under way", 1, chip.freeze());
        });
    }

    private static void suspend() {
        in("Promise 9");
        held("Sets the work that is under way aside, by hand", () -> {
            BusyChip chip = obeyed("e4!7;t3");
            chip.suspend();
            works(chip, 0, 0, -1, 0, -1, 0);
            works(chip, 1, 2, 4, 21, 7, 0);
            same("the clerk lets it be", 0, chip.pass(9));
            BusyChip write = new BusyChip();
            load(write, 1, 2);
            write.arm();
            write.write(60);
            write.suspend();
            works(write, 1, 1, 60, 4, -1, 0);
        });
        held("Undoable", () -> {
            BusyChip chip = obeyed("e4!7;t3");
            undone("suspend()", chip, () -> chip.suspend());
            works(chip, 0, 2, 4, 21, 7, 0);
        });
        held("Returns how many ticks of it are left", () -> {
            for (int gone = 0; gone < 24; gone++) {
                BusyChip chip = new BusyChip();
                chip.arm();
                chip.erase(0);
                for (int i = 0; i < gone; i++) {
                    chip.pass(1);
                }
                same("behind " + gone + " ticks", 24 - gone, chip.suspend());
            }
        });
        held("Throws `IllegalStateException` if no write and no erase is under way, or one is set aside already", () -> {
            BusyChip chip = new BusyChip();
            state("none is under way", chip, () -> chip.suspend());
            chip.arm();
            chip.lock(1, 1);
            state("a change of the locks is", chip, () -> chip.suspend());
            chip.pass(5);
            chip.arm();
            chip.erase(0);
            chip.suspend();
            state("none is any more, one is set aside", chip, () -> chip.suspend());
            chip.load(1);
            chip.arm();
            chip.write(40);
            state("a write is, one is set aside", chip, () -> chip.suspend());
            chip.pass(2);
            chip.resume();
            chip.pass(24);
            state("it has ended", chip, () -> chip.suspend());
        });
    }

    private static void resume() {
        in("Promise 10");
        held("Lets the work that is set aside go on, whoever set it aside", () -> {
            BusyChip chip = new BusyChip();
            load(chip, 1, 2);
            chip.arm();
            chip.write(71);
            chip.pass(2);
            chip.suspend();
            chip.resume();
            works(chip, 0, 1, 71, 2, -1, 0);
            works(chip, 1, 0, -1, 0, -1, 0);
            same("two ticks", 2, chip.pass(9));
            cells(chip, 64, 2);
            BusyChip clerks = obeyed("e4!0;t3;w0:01!9;t2");
            works(clerks, 1, 2, 4, 21, 0, 1);
            clerks.resume();
            works(clerks, 0, 2, 4, 21, 0, 0);
            works(clerks, 1, 0, -1, 0, -1, 0);
            same("it goes on", 21, clerks.pass(50));
        });
        held("Undoable", () -> {
            BusyChip chip = obeyed("e4!0;t3;w0:01!9;t2");
            undone("resume()", chip, () -> chip.resume());
            works(chip, 1, 2, 4, 21, 0, 1);
        });
        held("Returns how many ticks of it are left", () -> {
            BusyChip chip = new BusyChip();
            chip.arm();
            chip.erase(0);
            chip.suspend();
            same("all", 24, chip.resume());
            chip.pass(23);
            chip.suspend();
            chip.pass(100);
            same("the last one", 1, chip.resume());
        });
        held("Throws `IllegalStateException` if none is set aside, or the chip is busy", () -> {
            BusyChip chip = new BusyChip();
            state("none is", chip, () -> chip.resume());
            chip.arm();
            chip.erase(0);
            state("none is, and busy", chip, () -> chip.resume());
            chip.suspend();
            chip.load(1);
            chip.arm();
            chip.write(40);
            state("busy", chip, () -> chip.resume());
            chip.pass(2);
            same("not busy, and not armed", 24, chip.resume());
            state("it is under way", chip, () -> chip.resume());
            BusyChip clerks = obeyed("e4!0;t3;w0:01!9;t1");
            state("busy with a write by the clerk", clerks, () -> clerks.resume());
        });
    }

    private static void cut() {
        in("Promise 11");
        held("Cuts the power", () -> {
            BusyChip chip = new BusyChip();
            chip.freeze();
            chip.load(1);
            chip.arm();
            chip.cut();
            same("armed, frozen, loaded", 0, chip.count(1) + chip.count(2) + chip.count(11));
            same("time stands still", 0, chip.count(0));
        });
        held("Undoable", () -> {
            BusyChip chip = obeyed("e4!0;t3;w0:01!9;t1");
            chip.load(7);
            undone("cut() of two works", chip, () -> chip.cut());
            chip.cut();
            undone("cut() of nothing", chip, () -> chip.cut());
        });
        held("Returns how many works are lost", () -> {
            BusyChip chip = obeyed("e4!0;t3;w0:01!9;t1");
            same("two", 2, chip.cut());
            same("none", 0, chip.cut());
            chip.arm();
            chip.lock(1, 1);
            same("a change of the locks", 1, chip.cut());
            chip.arm();
            chip.erase(0);
            chip.suspend();
            same("one that is set aside", 1, chip.cut());
            chip.post(1, 0, 0);
            same("an order that waits is none", 0, chip.cut());
            same("all so far", 4, chip.count(9));
        });
    }
}
